import java.util.Arrays;

/** The edges of promises 19 to 24, each sentence by itself. */
public final class LookEdgeTest {
    private static final int BAD = FrozenVolume.BAD, NONE = FrozenVolume.NONE, NOT_FOLDER = FrozenVolume.NOT_FOLDER;
    private static final int LEAST = Integer.MIN_VALUE, GREATEST = Integer.MAX_VALUE;
    private static final int[] NO_INODES = {LEAST, -1, 0, 10, 11, 4096, 4097, GREATEST};

    public static void main(String[] args) {
        findEmptyParts();
        findParents();
        findWhatMayBeNoName();
        findWithoutParts();
        findNoNumber();
        findNotFolder();
        findNone();
        aboutNumbers();
        aboutWhats();
        aboutWhereItHasNone();
        aboutWithoutSign();
        aboutSizes();
        aboutLinks();
        aboutDevices();
        aboutParents();
        aboutEntries();
        aboutBlockNumbers();
        aboutTypes();
        entryPlaces();
        entryRefused();
        entryNames();
        readPlaces();
        readSizes();
        readAcrossBlocks();
        readZeros();
        readOfAFragment();
        readRefused();
        targetLengths();
        targetRefused();
        placeOfBlocks();
        placeRefused();
        notMounted();
        CheckKit.finish("LookEdgeTest");
    }

    /** Inodes: 1 the root, 2 d, 3 f, 4 l, 5 b, 6 c, 7 p, 8 s (named so that they come in this order), 9 the directory d/e. */
    private static FrozenVolume mounted() {
        FrozenVolume x = new FrozenVolume();
        String[] names = {"1d", "2f", "3l\0to", "4b", "5c", "6p", "7s"};
        for (int kind = 1; kind <= 7; kind++) {
            CheckKit.make(x, 0, kind, -kind, names[kind - 1]);
        }
        CheckKit.make(x, 1, 1, "e");
        CheckKit.write(x, 2, CheckKit.bytes("bytes"));
        x.freeze(12, 0, 0);
        CheckKit.due("mount", x.mount(), 0);
        return x;
    }

    private static void finds(FrozenVolume x, int from, String path, int due) {
        CheckKit.due("find(" + from + ") of " + path.replace('\0', '0'), CheckKit.find(x, from, path), due);
    }

    private static void findEmptyParts() {
        CheckKit.sentence(19, "its parts, between bytes 47, are names, those that are empty count for nothing");
        FrozenVolume x = mounted();
        String[] paths = {"1d/e", "/1d/e", "1d/e/", "1d//e", "//1d///e////", "/".repeat(300) + "1d" + "/".repeat(300) + "e"};
        for (String path : paths) {
            finds(x, 1, path, 9);
        }
        finds(x, 1, "2f/", 3);
        finds(x, 1, "2f///", 3);
        finds(x, 1, "1d e", NONE);
        finds(x, 1, "1d.e", NONE);
        finds(x, 1, "1d0e", NONE);
    }

    private static void findParents() {
        CheckKit.sentence(19, "46 46 leads to the parent (from the root to itself)");
        FrozenVolume x = mounted();
        finds(x, 1, "..", 1);
        finds(x, 1, "../..", 1);
        finds(x, 1, "../../1d", 2);
        finds(x, 9, "..", 2);
        finds(x, 9, "../", 2);
        finds(x, 9, "../..", 1);
        finds(x, 9, "../../..", 1);
        finds(x, 1, "1d/e/..", 2);
        finds(x, 1, "1d/e/../e/../..", 1);
        finds(x, 1, ".", NONE);
        finds(x, 1, "...", NONE);
    }

    private static void findWhatMayBeNoName() {
        CheckKit.sentence(19, "all others (also what may be no name) to the entry of that name");
        FrozenVolume x = mounted();
        for (String path : new String[] {".", "1d/.", "...", "\0", "1d\0", "\0001d", "x".repeat(256), "x".repeat(257), "x".repeat(5000)}) {
            finds(x, 1, path, NONE);
        }
        FrozenVolume y = new FrozenVolume();
        CheckKit.make(y, 0, 2, "x".repeat(256));
        CheckKit.make(y, 0, 2, "...");
        CheckKit.make(y, 0, 2, "x");
        y.freeze(12, 0, 0);
        y.mount();
        finds(y, 1, "x".repeat(255), NONE);
        finds(y, 1, "x".repeat(256), 4);
        finds(y, 1, "x".repeat(257), NONE);
        finds(y, 1, "x".repeat(512), NONE);
        finds(y, 1, "x", 3);
        finds(y, 1, "..", 1);
        finds(y, 1, "...", 2);
        finds(y, 1, "....", NONE);
    }

    private static void findWithoutParts() {
        CheckKit.sentence(19, "without parts, and if it is a directory, to itself");
        FrozenVolume x = mounted();
        for (int inode = 1; inode <= 9; inode++) {
            boolean is = inode <= 2 || inode == 9;
            CheckKit.due("an empty tape", x.find(inode), is ? inode : NOT_FOLDER);
            finds(x, inode, "/", is ? inode : NOT_FOLDER);
            finds(x, inode, "///", is ? inode : NOT_FOLDER);
        }
    }

    private static void findNoNumber() {
        CheckKit.sentence(19, "BAD: not mounted, or no such number");
        FrozenVolume x = mounted();
        for (int inode : NO_INODES) {
            finds(x, inode, "", BAD);
            finds(x, inode, "1d", BAD);
            finds(x, inode, "none/none", BAD);
        }
        finds(x, 9, "", 9);
    }

    private static void findNotFolder() {
        CheckKit.sentence(19, "NOT_FOLDER: it, or what a part led to before another part, is no directory");
        FrozenVolume x = mounted();
        String[] names = {"2f", "3l", "4b", "5c", "6p", "7s"};
        for (int i = 0; i < names.length; i++) {
            finds(x, 1, names[i], 3 + i);
            finds(x, 1, names[i] + "/x", NOT_FOLDER);
            finds(x, 1, names[i] + "/..", NOT_FOLDER);
            finds(x, 1, names[i] + "//.", NOT_FOLDER);
            finds(x, 3 + i, "x", NOT_FOLDER);
            finds(x, 3 + i, "..", NOT_FOLDER);
        }
    }

    private static void findNone() {
        CheckKit.sentence(19, "NONE: a part is not there. (Part by part.)");
        FrozenVolume x = mounted();
        finds(x, 1, "0", NONE);
        finds(x, 1, "8", NONE);
        finds(x, 1, "1", NONE);
        finds(x, 1, "1d1", NONE);
        finds(x, 9, "e", NONE);
        finds(x, 1, "none/2f/x", NONE);
        finds(x, 1, "2f/none", NOT_FOLDER);
        finds(x, 1, "2f/none/x", NOT_FOLDER);
        finds(x, 1, "1d/none/..", NONE);
        finds(x, 1, "1d/e/none", NONE);
    }

    private static void aboutNumbers() {
        CheckKit.sentence(20, "BAD: not mounted, no such number, or what is none of these.");
        FrozenVolume x = mounted();
        for (int inode : NO_INODES) {
            for (int what = -1; what <= 12; what++) {
                CheckKit.due("about(" + inode + ", " + what + ")", x.about(inode, what), BAD);
            }
        }
        CheckKit.due("about(1, 0)", x.about(1, 0), 1);
        CheckKit.due("about(9, 0)", x.about(9, 0), 1);
    }

    private static void aboutWhats() {
        CheckKit.sentence(20, "or what is none of these.");
        FrozenVolume x = mounted();
        for (int inode = 1; inode <= 9; inode++) {
            for (int what : new int[] {LEAST, -2, -1, 12, 13, GREATEST}) {
                CheckKit.due("about(" + inode + ", " + what + ")", x.about(inode, what), BAD);
            }
        }
        CheckKit.due("about(1, 11)", x.about(1, 11), 1);
    }

    private static void aboutWhereItHasNone() {
        CheckKit.sentence(20, "0 where it has none of that.");
        FrozenVolume x = mounted();
        for (int inode = 1; inode <= 9; inode++) {
            long kind = x.about(inode, 0);
            CheckKit.due("a size", x.about(inode, 5), kind == 2 ? 5 : kind == 3 ? 2 : 0);
            CheckKit.due("a device's number", x.about(inode, 7), kind == 4 ? 4294967292L : kind == 5 ? 4294967291L : 0);
            CheckKit.due("a parent", x.about(inode, 8), inode <= 2 ? 1 : inode == 9 ? 2 : 0);
            CheckKit.due("entries", x.about(inode, 9), inode == 1 ? 7 : inode == 2 ? 1 : 0);
            CheckKit.due("block numbers", x.about(inode, 10), 0);
        }
    }

    private static void aboutWithoutSign() {
        CheckKit.sentence(20, "1 mode, 2 owner, 3 group (as the id table has them), 4 time (all three without sign)");
        int[] numbers = {0, 1, GREATEST, LEAST, -1};
        for (int number : numbers) {
            FrozenVolume x = new FrozenVolume();
            x.own(0, 4095, number, number - 1, number + 1);
            x.freeze(12, 0, number);
            x.mount();
            CheckKit.due("mode", x.about(1, 1), 4095);
            CheckKit.due("owner", x.about(1, 2), number & 4294967295L);
            CheckKit.due("group", x.about(1, 3), number - 1 & 4294967295L);
            CheckKit.due("time", x.about(1, 4), number + 1 & 4294967295L);
        }
    }

    private static void aboutSizes() {
        CheckKit.sentence(20, "5 a file's size or how many bytes a target has");
        for (int n : new int[] {0, 1, 4095, 4096, 4097, 16384}) {
            FrozenVolume x = new FrozenVolume();
            CheckKit.make(x, 0, 2, "f");
            if (n > 0) {
                x.fill(1, 3, n);
            }
            int target = Math.max(1, Math.min(4096, n));
            CheckKit.make(x, 0, 3, "l\0" + "t".repeat(target));
            x.freeze(12, 0, 0);
            x.mount();
            CheckKit.due("a file of " + n, x.about(2, 5), n);
            CheckKit.due("a target of " + target, x.about(3, 5), target);
        }
    }

    private static void aboutLinks() {
        CheckKit.sentence(20, "6 links");
        FrozenVolume x = new FrozenVolume();
        CheckKit.make(x, 0, 2, "f");
        CheckKit.make(x, 0, 6, "p");
        for (int i = 0; i < 3; i++) {
            x.freeze(12, 0, 0);
            x.mount();
            CheckKit.due("the root's", x.about(1, 6), 2 + i);
            CheckKit.due("a file's", x.about(CheckKit.find(x, 1, "f"), 6), 1 + i);
            CheckKit.due("a pipe's", x.about(CheckKit.find(x, 1, "p"), 6), 1 + 2 * i);
            CheckKit.make(x, 0, 1, "d" + i);
            CheckKit.tie(x, 0, 1, "f" + i);
            CheckKit.tie(x, 0, 2, "p" + i);
            CheckKit.tie(x, 0, 2, "q" + i);
        }
    }

    private static void aboutDevices() {
        CheckKit.sentence(20, "7 a device's number (without sign)");
        for (int number : new int[] {0, 1, GREATEST, LEAST, -1}) {
            for (int kind = 4; kind <= 5; kind++) {
                FrozenVolume x = new FrozenVolume();
                CheckKit.make(x, 0, kind, number, "d");
                x.freeze(12, 0, 0);
                x.mount();
                CheckKit.due("number of a device of kind " + kind, x.about(2, 7), number & 4294967295L);
            }
        }
    }

    private static void aboutParents() {
        CheckKit.sentence(20, "8 a directory's parent's number (the root's: its own)");
        FrozenVolume x = mounted();
        CheckKit.due("the root's", x.about(1, 8), 1);
        CheckKit.due("of one in it", x.about(2, 8), 1);
        CheckKit.due("of one in that", x.about(9, 8), 2);
        CheckKit.due("of a file", x.about(3, 8), 0);
        ImageKit kit = new ImageKit();
        int inner = kit.addFolder(1, 0, 0, 2, 2);
        int told = kit.addListing(ImageKit.head(1, inner, 1), ImageKit.entry(inner, 0, 1, "d"));
        kit.root = ImageKit.reference(kit.addFolder(2, told, kit.folders.size(), 3, 3));
        FrozenVolume y = new FrozenVolume();
        CheckKit.setImage(y, kit.image());
        CheckKit.due("mount", y.mount(), 0);
        CheckKit.due("a root with the number 2", y.about(2, 8), 2);
        CheckKit.due("of the number 1 in it", y.about(1, 8), 2);
    }

    private static void aboutEntries() {
        CheckKit.sentence(20, "9 how many entries a directory has");
        FrozenVolume x = new FrozenVolume();
        for (int i = 0; i <= 258; i++) {
            if (i < 3 || i > 254) {
                x.freeze(12, 0, 0);
                x.mount();
                CheckKit.due("a directory with " + i, x.about(1, 9), i);
            }
            CheckKit.make(x, 0, 6, "n" + i);
        }
    }

    private static void aboutBlockNumbers() {
        CheckKit.sentence(20, "10 how many block numbers a file has");
        int[] sizes = {0, 1, 4095, 4096, 4097, 8191, 8192, 8193};
        for (int options : new int[] {0, 4}) {
            for (int n : sizes) {
                for (int b = 0; b < 2; b++) {
                    FrozenVolume x = new FrozenVolume();
                    CheckKit.make(x, 0, 2, "f");
                    x.fill(1, b, n);
                    x.freeze(12, options, 0);
                    x.mount();
                    CheckKit.due(n + " bytes " + b + ", option " + options, x.about(2, 10), options == 0 ? n / 4096 : (n + 4095) / 4096);
                }
            }
        }
    }

    private static void aboutTypes() {
        CheckKit.sentence(20, "11 the type");
        FrozenVolume x = mounted();
        for (int inode = 2; inode <= 8; inode++) {
            CheckKit.due("type of " + inode, x.about(inode, 11), inode - 1);
        }
        for (int kind = 1; kind <= 7; kind++) {
            FrozenVolume y = new FrozenVolume();
            CheckKit.setImage(y, MountKit.oneOf(kind + 7, MountKit.body(kind + 7)).image());
            CheckKit.due("mount", y.mount(), 0);
            CheckKit.due("an extended type", y.about(2, 11), kind + 7);
            CheckKit.due("its kind", y.about(2, 0), kind);
        }
    }

    private static void entryPlaces() {
        CheckKit.sentence(21, "NONE: there is no such entry.");
        FrozenVolume x = mounted();
        for (int i : new int[] {LEAST, -1, 7, 8, 256, GREATEST}) {
            CheckKit.due("entry " + i, x.entry(1, i), NONE);
        }
        CheckKit.due("entry 0", x.entry(1, 0), 2);
        CheckKit.due("entry 6", x.entry(1, 6), 8);
        CheckKit.due("entry 0 of one", x.entry(2, 0), 9);
        CheckKit.due("entry 1 of one", x.entry(2, 1), NONE);
        CheckKit.due("entry 0 of none", x.entry(9, 0), NONE);
        CheckKit.due("entry -1 of none", x.entry(9, -1), NONE);
    }

    private static void entryRefused() {
        CheckKit.sentence(21, "BAD: not mounted, or no such number; NOT_FOLDER; NONE");
        FrozenVolume x = mounted();
        x.entry(1, 6);
        for (int inode : NO_INODES) {
            CheckKit.due("entry of " + inode, x.entry(inode, 0), BAD);
            CheckKit.due("entry -1 of " + inode, x.entry(inode, -1), BAD);
        }
        for (int inode = 3; inode <= 8; inode++) {
            CheckKit.due("entry of " + inode, x.entry(inode, 0), NOT_FOLDER);
            CheckKit.due("entry -1 of " + inode, x.entry(inode, -1), NOT_FOLDER);
        }
        CheckKit.due("entry of none", x.entry(9, 0), NONE);
        CheckKit.due("the out stays", CheckKit.out(x), CheckKit.bytes("7s"));
    }

    private static void entryNames() {
        CheckKit.sentence(21, "the out has its name");
        FrozenVolume x = new FrozenVolume();
        String[] names = {"1", "22", "3".repeat(255), "4".repeat(256), "5"};
        for (String name : names) {
            CheckKit.make(x, 0, 6, name);
        }
        x.freeze(12, 0, 0);
        x.mount();
        for (int i = 0; i < names.length; i++) {
            CheckKit.due("entry " + i, x.entry(1, i), i + 2);
            CheckKit.due("its name", CheckKit.out(x), CheckKit.bytes(names[i]));
            CheckKit.due("how long it is", x.out(), names[i].length());
        }
    }

    private static final byte[] LONG = new byte[20000];

    /** A file of 20000 bytes, with blocks of 4096: the third one is of zeros, the rest in a fragment. */
    private static FrozenVolume withLong(int options) {
        for (int i = 0; i < LONG.length; i++) {
            LONG[i] = (byte) (i >= 8192 && i < 12288 ? 0 : i / 7 + 1);
        }
        FrozenVolume x = new FrozenVolume();
        CheckKit.make(x, 0, 2, "f");
        CheckKit.write(x, 1, LONG);
        x.freeze(12, options, 0);
        CheckKit.due("mount", x.mount(), 0);
        return x;
    }

    private static void reads(FrozenVolume x, long from, int n) {
        int many = (int) Math.max(0, Math.min(n, 20000 - from));
        CheckKit.due("read(" + from + ", " + n + ")", x.read(2, from, n), many);
        CheckKit.due("its bytes", CheckKit.out(x), many == 0 ? new byte[0] : Arrays.copyOfRange(LONG, (int) from, (int) from + many));
    }

    private static void readPlaces() {
        CheckKit.sentence(22, "from is below 0");
        FrozenVolume x = withLong(0);
        for (long from : new long[] {Long.MIN_VALUE, LEAST, -4096, -1}) {
            CheckKit.due("read from " + from, x.read(2, from, 1), BAD);
        }
        long[] froms = {0, 1, 19998, 19999, 20000, 20001, 20480, 24576, GREATEST, 1L << 31, 1L << 32, (1L << 32) + 1, 1L << 40, 1L << 44,
            Long.MAX_VALUE - 1, Long.MAX_VALUE};
        for (long from : froms) {
            for (int n : new int[] {0, 1, 2, 16384}) {
                reads(x, from, n);
            }
        }
    }

    private static void readSizes() {
        CheckKit.sentence(22, "or n not 0 .. 16384.");
        FrozenVolume x = withLong(0);
        for (int n : new int[] {LEAST, -1, 16385, 16386, GREATEST}) {
            CheckKit.due("read " + n, x.read(2, 0, n), BAD);
            CheckKit.due("read " + n + " behind the end", x.read(2, 20000, n), BAD);
        }
        for (int n : new int[] {0, 1, 16383, 16384}) {
            reads(x, 0, n);
            reads(x, 3615, n);
            reads(x, 3616, n);
            reads(x, 3617, n);
        }
    }

    private static void readAcrossBlocks() {
        CheckKit.sentence(22, "The out has a file's bytes from a place on, n at most, as far as they are there: how many.");
        for (int options : new int[] {0, 2, 4, 6}) {
            FrozenVolume x = withLong(options);
            for (int edge : new int[] {4096, 8192, 12288, 16384, 20000}) {
                for (int from = edge - 2; from <= edge + 2; from++) {
                    for (int n : new int[] {0, 1, 2, 3, 4095, 4096, 4097, 8192, 16384}) {
                        reads(x, from, n);
                    }
                }
            }
        }
    }

    private static void readZeros() {
        CheckKit.sentence(22, "A BLOCK NUMBER: 0, a block of zeros, nowhere");
        // Blocks of zeros alone; the last one has one byte less than a block, a block, and one byte.
        for (int size : new int[] {4095, 8191, 8192, 8193, 65535}) {
            ImageKit kit = MountKit.withFile(new ImageKit(), -1, -1, 0, size, new int[(size + 4095) / 4096]);
            FrozenVolume x = new FrozenVolume();
            CheckKit.setImage(x, kit.image());
            CheckKit.due("mount", x.mount(), 0);
            x.target(2);
            for (int from : new int[] {0, size - 2, size - 1, size, size + 1}) {
                int many = Math.max(0, Math.min(16384, size - from));
                CheckKit.due("read from " + from, x.read(2, from, 16384), many);
                CheckKit.due("zeros", CheckKit.out(x), new byte[many]);
            }
            CheckKit.due("place", x.place(2), 0);
        }
    }

    private static void readOfAFragment() {
        CheckKit.sentence(22, "The rest of a file with a fragment is in that fragment's block, from the offset on.");
        FrozenVolume x = new FrozenVolume();
        byte[] bytes = new byte[4096];
        for (int i = 0; i < bytes.length; i++) {
            bytes[i] = (byte) (i / 16 + 1);
        }
        // Three files that fill a fragment to its last byte, and a fourth one that begins the next.
        int[] begins = {0, 1, 4095, 4096};
        for (int i = 0; i < 3; i++) {
            CheckKit.make(x, 0, 2, "f" + i);
            CheckKit.write(x, i + 1, Arrays.copyOfRange(bytes, begins[i], begins[i + 1]));
        }
        CheckKit.make(x, 0, 2, "f3");
        CheckKit.write(x, 4, CheckKit.bytes("next"));
        for (int options = 0; options <= 2; options += 2) {
            x.freeze(12, options, 0);
            CheckKit.due("mount", x.mount(), 0);
            for (int i = 0; i < 3; i++) {
                CheckKit.due("read", x.read(i + 2, 0, 16384), begins[i + 1] - begins[i]);
                CheckKit.due("its bytes", CheckKit.out(x), Arrays.copyOfRange(bytes, begins[i], begins[i + 1]));
                CheckKit.due("place", x.place(i + 2), 96);
            }
            CheckKit.due("read the last byte but one", x.read(3, 4092, 2), 2);
            CheckKit.due("its bytes", CheckKit.out(x), Arrays.copyOfRange(bytes, 4093, 4095));
            CheckKit.due("place of the next", x.place(5), options == 0 ? x.imageWord(8) - 4 : 96 + 4096);
            CheckKit.due("read of the next", x.read(5, 1, 9), 3);
            CheckKit.due("its bytes", CheckKit.out(x), CheckKit.bytes("ext"));
        }
    }

    private static void readRefused() {
        CheckKit.sentence(22, "BAD: not mounted, no such number, it is no file, from is below 0, or n not 0 .. 16384.");
        FrozenVolume x = mounted();
        CheckKit.due("read", x.read(3, 1, 3), 3);
        for (int inode : NO_INODES) {
            CheckKit.due("read of " + inode, x.read(inode, 0, 1), BAD);
        }
        for (int inode = 1; inode <= 9; inode++) {
            if (inode != 3) {
                CheckKit.due("read of " + inode, x.read(inode, 0, 1), BAD);
                CheckKit.due("read nothing of " + inode, x.read(inode, 0, 0), BAD);
            }
        }
        CheckKit.due("the out stays", CheckKit.out(x), CheckKit.bytes("yte"));
    }

    private static void targetLengths() {
        CheckKit.sentence(23, "The out has a link's target: how many bytes.");
        for (int n : new int[] {1, 2, 4096, 16383, 16384}) {
            for (int type : new int[] {3, 10}) {
                byte[] target = PackKit.sample(new java.util.Random(n), 5, n);
                FrozenVolume x = new FrozenVolume();
                CheckKit.setImage(x, MountKit.oneOf(type, ImageKit.join(MountKit.four(1), MountKit.four(n), target,
                        type == 3 ? new byte[0] : MountKit.four(-1))).image());
                CheckKit.due("mount", x.mount(), 0);
                CheckKit.due("target of " + n, x.target(2), n);
                CheckKit.due("its bytes", CheckKit.out(x), target);
            }
        }
    }

    private static void targetRefused() {
        CheckKit.sentence(23, "BAD: not mounted, no such number, or it is no link.");
        FrozenVolume x = mounted();
        CheckKit.due("target", x.target(4), 2);
        for (int inode : NO_INODES) {
            CheckKit.due("target of " + inode, x.target(inode), BAD);
        }
        for (int inode = 1; inode <= 9; inode++) {
            CheckKit.due("target of " + inode, x.target(inode), inode == 4 ? 2 : BAD);
        }
        CheckKit.due("the out stays", CheckKit.out(x), CheckKit.bytes("to"));
    }

    private static void placeOfBlocks() {
        CheckKit.sentence(24, "Where the first block of a file that is not of zeros, or, if it has none of these, its fragment begins in the image; 0 without any.");
        FrozenVolume x = new FrozenVolume();
        int[][] zerosAndOnes = {{0, 0}, {0, 1}, {0, 4096}, {1, 0}, {4096, 0}, {4096, 1}, {4096, 4096}, {8192, 4096}, {4096, 4097}, {4097, 0}};
        for (int i = 0; i < zerosAndOnes.length; i++) {
            CheckKit.make(x, 0, 2, "f" + i);
            x.fill(i + 1, 0, zerosAndOnes[i][0]);
            x.fill(i + 1, i + 1, zerosAndOnes[i][1]);
        }
        x.freeze(12, 2, 0);
        CheckKit.due("mount", x.mount(), 0);
        // As they are: blocks from 96 on, those of f2, f6, f7 and f8, then the one fragment.
        int end = 96 + 4 * 4096;
        int[] due = {0, end, 96, end, 0, end, 96 + 4096, 96 + 2 * 4096, 96 + 3 * 4096, end};
        for (int i = 0; i < due.length; i++) {
            CheckKit.due("place of f" + i, x.place(i + 2), due[i]);
        }
        x.freeze(12, 6, 0);
        x.mount();
        CheckKit.due("a short block of zeros", x.place(5), 0);
        CheckKit.due("a short block behind one of zeros", x.place(7), 96 + 1 + 4096);
        FrozenVolume many = new FrozenVolume();
        for (int i = 0; i < 5; i++) {
            CheckKit.make(many, 0, 2, "f" + i);
            many.fill(i + 1, i + 1, 3000 + i);
        }
        many.freeze(12, 2, 0);
        CheckKit.due("mount", many.mount(), 0);
        for (int i = 0, at = 96; i < 5; i++) {
            CheckKit.due("place of fragment " + i, many.place(i + 2), at);
            at += 3000 + i;
        }
    }

    private static void placeRefused() {
        CheckKit.sentence(24, "BAD: not mounted, no such number, or it is no file.");
        FrozenVolume x = mounted();
        for (int inode : NO_INODES) {
            CheckKit.due("place of " + inode, x.place(inode), BAD);
        }
        for (int inode = 1; inode <= 9; inode++) {
            CheckKit.due("place of " + inode, x.place(inode), inode == 3 ? 96 : BAD);
        }
    }

    private static void notMounted() {
        CheckKit.sentence(24, "BAD: not mounted");
        FrozenVolume x = mounted();
        x.read(3, 0, 5);
        x.patch(0, 0);
        for (int inode = 0; inode <= 10; inode++) {
            CheckKit.due("find", x.find(inode), BAD);
            CheckKit.due("about", x.about(inode, 0), BAD);
            CheckKit.due("entry", x.entry(inode, 0), BAD);
            CheckKit.due("read", x.read(inode, 0, 1), BAD);
            CheckKit.due("target", x.target(inode), BAD);
            CheckKit.due("place", x.place(inode), BAD);
        }
        CheckKit.due("the out stays", CheckKit.out(x), CheckKit.bytes("bytes"));
    }
}
