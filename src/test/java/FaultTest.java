import java.util.Arrays;

/** Promise 18: mount names the first fault; each rule of the form is broken by itself, and met at its very edge. */
public final class FaultTest {
    private static final int AS_IS = 16777216;
    private static ImageKit kit;
    private static byte[] good;
    private static int x;
    private static int d;
    private static int f;
    private static int l;
    private static int p;
    private static int q;
    private static int s;
    private static int r;
    private static int listing;
    private static int second;

    public static void main(String[] args) {
        build();
        CheckKit.due("the sample", CheckKit.mount(good), 0);
        kit.packs = true;
        CheckKit.due("the sample, packed", CheckKit.mount(kit.image()), 0);
        kit.packs = false;
        kit.image();
        superFaults();
        superNumbers();
        placeFaults();
        pieceFaults();
        rowLimits();
        fragmentFaults();
        inodeFaults();
        everyType();
        fileFaults();
        exportFaults();
        listingFaults();
        indexFaults();
        treeFaults();
        deepTrees();
        manyListings();
        dataFaults();
        dataLimit();
        manyFragments();
        fileOne();
        firstOfTwo();
        whatIsMounted();
        CheckKit.finish("FaultTest");
    }

    private static byte[] four(long n) {
        return ImageKit.little(4, n);
    }

    private static byte[] two(long n) {
        return ImageKit.little(2, n);
    }

    private static byte[] eight(long n) {
        return ImageKit.little(8, n);
    }

    /** A tree with every kind, extended and not, two headers and an index, a fragment, and blocks of all sorts. */
    private static void build() {
        kit = new ImageKit();
        byte[] rests = new byte[100];
        byte[] block = new byte[4096];
        Arrays.fill(block, (byte) 97);
        for (int i = 0; i < 100; i++) {
            rests[i] = (byte) (i + 1);
        }
        kit.fragments.add(new long[] {kit.addData(rests), 100 + AS_IS, 0});
        int begin = kit.addData(block);
        byte[] packed = PackKit.pack(block);
        kit.addData(packed);
        int inner = kit.addListing(ImageKit.head(1, 0, 3), ImageKit.entry(0, 0, 2, "x"));
        int size = kit.folders.size();
        x = kit.addFile(3, begin, -1, 77, 3 * 4096, 4096 + AS_IS, 0, packed.length);
        d = kit.addFolder(2, inner, size, 2, 1);
        f = kit.addLongFile(4, 0, 0, 10, 50, 2);
        l = kit.addInode(10, 5, four(1), four(6), CheckKit.bytes("target"), four(-1));
        p = kit.addInode(11, 6, four(1), four(-3), four(-1));
        q = kit.addInode(13, 7, four(1), four(-1));
        s = kit.addInode(7, 8, four(1));
        listing = kit.addListing(ImageKit.head(3, d, 4), ImageKit.entry(d, -2, 1, "d"),
                ImageKit.entry(f, 0, 2, "f"), ImageKit.entry(f, 0, 2, "g"));
        second = kit.addListing(ImageKit.head(4, l, 5), ImageKit.entry(l, 0, 3, "l"), ImageKit.entry(p, 1, 4, "p"),
                ImageKit.entry(q, 2, 6, "q"), ImageKit.entry(s, 3, 7, "s"));
        r = kit.addInode(8, 1, four(3), four(kit.folders.size() - listing + 3), four(0), four(9), two(1), two(listing),
                four(-1), four(second - listing), four(0), four(0), CheckKit.bytes("l"));
        kit.root = ImageKit.reference(r);
        for (int place : new int[] {r, d, x, f, l, p, q, s}) {
            kit.exports.add(ImageKit.reference(place));
        }
        good = kit.image();
    }

    private static void patched(String what, int fault, int at, byte[] bytes) {
        CheckKit.due(what, CheckKit.mount(ImageKit.patched(good, at, bytes)), fault);
    }

    /** Of a field in an inode. */
    private static void inode(String what, int fault, int inode, int field, byte[] bytes) {
        patched(what, fault, kit.inodesAt + 2 + inode + field, bytes);
    }

    private static void folder(String what, int fault, int place, byte[] bytes) {
        patched(what, fault, kit.foldersAt + 2 + place, bytes);
    }

    private static void superFaults() {
        CheckKit.due("no bytes", new FrozenVolume().mount(), 1);
        CheckKit.due("95 bytes", CheckKit.mount(Arrays.copyOf(good, 95)), 1);
        CheckKit.due("96 bytes of them", CheckKit.mount(Arrays.copyOf(good, 96)), 1);
        CheckKit.due("bytes behind", CheckKit.mount(Arrays.copyOf(good, good.length + 9)), 0);
        CheckKit.due("one byte less", CheckKit.mount(Arrays.copyOf(good, good.length - 1)), 1);
        patched("the first number", 1, 0, four(1936814953));
        patched("the time", 0, 8, four(-1));
        patched("the u2 1", 1, 20, two(2));
        patched("the u2 4", 1, 28, two(3));
        patched("the u2 0", 1, 30, two(1));
        patched("the ones", 1, 56, eight(-2));
        patched("the ones, highest byte", 1, 63, new byte[1]);
        patched("LOG 11", 1, 12, ImageKit.join(four(2048), four(1), two(1), two(11)));
        patched("LOG 17", 1, 12, ImageKit.join(four(131072), four(1), two(1), two(17)));
        patched("LOG 12 with another block", 1, 12, four(8192));
        patched("another LOG", 1, 22, two(13));
        patched("FLAGS with 1024", 1, 24, two(576 + 1024));
        patched("FLAGS with all others", 0, 24, two(65535 - 1024));
        patched("no FLAGS", 0, 24, two(0));
    }

    private static void superNumbers() {
        patched("no inodes", 1, 4, four(0));
        patched("4097 inodes", 1, 4, four(4097));
        patched("inodes below 0 by sign", 1, 4, four(-1));
        patched("no ids", 1, 26, two(0));
        patched("4097 ids", 1, 26, two(4097));
        patched("4096 ids", 2, 26, two(4096));
        patched("4097 fragments", 1, 16, four(4097));
        patched("fragments below 0 by sign", 1, 16, four(-1));
        patched("no fragments, and a list", 1, 16, four(0));
        patched("fragments, and no list", 1, 80, eight(-1));
        patched("USED above the image", 1, 40, eight(good.length + 1));
        patched("USED far above", 1, 40, eight(Long.MIN_VALUE));
        patched("USED below the directory row", 1, 40, eight(kit.foldersAt - 1));
        patched("an inode row at 95", 1, 64, eight(95));
        patched("an inode row far above", 1, 64, eight(-5));
        patched("a directory row before the inode row", 1, 72, eight(kit.inodesAt - 1));
        patched("a directory row far above", 1, 72, eight(-1));
        CheckKit.due("no fragments, list ones, but a file with one",
                CheckKit.mount(ImageKit.patched(ImageKit.patched(good, 16, four(0)), 80, eight(-1))), 2);
    }

    private static void placeFaults() {
        patched("an id list that ends behind USED", 2, 48, eight(kit.idList + 1));
        patched("an id list of ones", 2, 48, eight(-1));
        patched("an id list far above", 2, 48, eight(1L << 62));
        patched("an id list before", 2, 48, eight(kit.idList - 1));
        patched("an id list at 0", 2, 48, eight(0));
        patched("a fragment list behind", 2, 80, eight(kit.fragmentList + 1));
        patched("a fragment list at the super", 2, 80, eight(8));
        patched("an export list behind", 2, 88, eight(kit.exportList + 8));
        patched("no export list, though it is there", 2, 88, eight(-1));
        patched("a fragment piece elsewhere", 2, kit.fragmentList, eight(kit.tablesAt + 1));
        patched("a fragment piece far above", 2, kit.fragmentList, eight(-1));
        patched("an export piece elsewhere", 2, kit.exportList, eight(kit.tablesAt));
        patched("an id piece elsewhere", 2, kit.idList, eight(kit.idList - 5));
        patched("more ids than bytes", 3, 26, two(2));
        patched("a lesser USED", 2, 40, eight(good.length - 8));
        CheckKit.due("USED one more, of a longer image", CheckKit.mount(ImageKit.patched(
                Arrays.copyOf(good, good.length + 1), 40, eight(good.length + 1))), 2);
        patched("an inode piece of 0 bytes", 2, kit.inodesAt, two(32768));
        patched("an inode piece of 0 packed bytes", 2, kit.inodesAt, two(0));
        patched("an inode piece of 8193 bytes", 2, kit.inodesAt, two(32768 + 8193));
        patched("an inode piece that is shorter", 2, kit.inodesAt, two(32768 + kit.inodes.size() - 1));
        patched("an inode piece that is longer", 2, kit.inodesAt, two(32768 + kit.inodes.size() + 1));
        patched("an inode row that begins later", 2, 64, eight(kit.inodesAt + 1));
        patched("a directory row that begins earlier", 2, 72, eight(kit.foldersAt - 1));
        patched("a directory piece that is shorter", 2, kit.foldersAt, two(32768 + kit.folders.size() - 1));
        patched("a fragment piece that is longer", 2, kit.tablesAt, two(32768 + 17));
        patched("an id piece that is shorter", 2, kit.idList - 6, two(32768 + 3));
        patched("an empty inode row", 5, 64, eight(kit.foldersAt));
        ImageKit many = new ImageKit();
        many.ids = new int[2049];
        rootAlone(many);
        byte[] image = many.image();
        CheckKit.due("two pieces of ids", CheckKit.mount(image), 0);
        CheckKit.due("the second one elsewhere", CheckKit.mount(
                ImageKit.patched(image, many.idList + 8, eight(many.tablesAt + 8193))), 2);
        CheckKit.due("the first one as the second", CheckKit.mount(
                ImageKit.patched(image, many.idList + 8, eight(many.tablesAt))), 2);
        CheckKit.due("a list that would need one number less", CheckKit.mount(ImageKit.patched(image, 26, two(2048))), 2);
        many.ids = new int[4096];
        CheckKit.due("4096 ids, in two full pieces", CheckKit.mount(many.image()), 0);
        ImageKit none = new ImageKit();
        none.inodeCount = 1;
        CheckKit.due("rows without pieces", CheckKit.mount(none.image()), 5);
    }

    private static int rootAlone(ImageKit to) {
        int at = to.addFolder(1, 0, 0, 2, 2);
        to.root = ImageKit.reference(at);
        return at;
    }

    private static void pieceFaults() {
        kit.packs = true;
        byte[] packed = kit.image();
        int[] pieces = {kit.inodesAt, kit.foldersAt, kit.tablesAt, kit.fragmentList + 8, kit.exportList + 8};
        for (int i = 0; i < pieces.length; i++) {
            int size = packed[pieces[i]] & 255 | (packed[pieces[i] + 1] & 127) << 8;
            byte[] broken = packed.clone();
            broken[pieces[i] + 1 + size] ^= 1;
            CheckKit.due("a packed piece with another check, row " + i, CheckKit.mount(broken), 3);
            broken = packed.clone();
            broken[pieces[i] + 2] ^= 1;
            CheckKit.due("a packed piece with another first byte, row " + i, CheckKit.mount(broken), 3);
        }
        kit.packs = false;
        kit.image();
        patched("a piece that is as it is, told to be packed", 3, kit.inodesAt, two(kit.inodes.size()));
        ImageKit empty = new ImageKit();
        rootAlone(empty);
        byte[] image = empty.image();
        byte[] nothing = {120, (byte) 156, 3, 0, 0, 0, 0, 1};
        byte[] before = Arrays.copyOf(image, empty.foldersAt);
        byte[] behind = Arrays.copyOfRange(image, empty.foldersAt, image.length);
        byte[] more = ImageKit.join(before, two(nothing.length), nothing, behind);
        long shift = nothing.length + 2;
        more = ImageKit.patched(more, 40, eight(more.length));
        more = ImageKit.patched(more, 48, eight(empty.idList + shift));
        more = ImageKit.patched(more, (int) (empty.idList + shift), eight(empty.tablesAt + shift));
        CheckKit.due("a packed piece of no bytes", CheckKit.mount(more), 3);
        byte[] one = ImageKit.patched(more, empty.foldersAt, ImageKit.join(two(32768 + nothing.length)));
        CheckKit.due("the same bytes as they are", CheckKit.mount(one), 0);
    }

    /** The row is cut by hand, so that a piece can be short. */
    private static byte[] withFolderRow(byte[]... pieces) {
        ImageKit rootKit = new ImageKit();
        rootAlone(rootKit);
        byte[] image = rootKit.image();
        byte[] row = new byte[0];
        for (byte[] piece : pieces) {
            row = ImageKit.join(row, piece);
        }
        byte[] all = ImageKit.join(Arrays.copyOf(image, rootKit.foldersAt), row,
                Arrays.copyOfRange(image, rootKit.foldersAt, image.length));
        all = ImageKit.patched(all, 40, eight(all.length));
        all = ImageKit.patched(all, 48, eight(rootKit.idList + row.length));
        return ImageKit.patched(all, rootKit.idList + row.length, eight(rootKit.tablesAt + row.length));
    }

    private static byte[] piece(int n) {
        return ImageKit.join(two(32768 + n), new byte[n]);
    }

    private static byte[] packedPiece(int n) {
        byte[] packed = PackKit.pack(new byte[n]);
        return ImageKit.join(two(packed.length), packed);
    }

    private static void rowLimits() {
        byte[] full = packedPiece(8192);
        CheckKit.due("a full and a short piece", CheckKit.mount(withFolderRow(piece(8192), piece(1))), 0);
        CheckKit.due("a short piece before another", CheckKit.mount(withFolderRow(piece(8191), piece(1))), 3);
        CheckKit.due("a short packed piece before another", CheckKit.mount(withFolderRow(packedPiece(8191), full)), 3);
        CheckKit.due("a packed piece that is too long", CheckKit.mount(withFolderRow(packedPiece(8193))), 3);
        CheckKit.due("65536 bytes", CheckKit.mount(withFolderRow(full, full, full, full, full, full, full, full)), 0);
        CheckKit.due("65537 bytes", CheckKit.mount(
                withFolderRow(full, full, full, full, full, full, full, full, piece(1))), 3);
        byte[] match = PackKit.pack(new byte[300]);
        PackKit.Bits bits = new PackKit.Bits();
        bits.number(1, 1);
        bits.number(1, 2);
        PackKit.putSymbols(bits, java.util.List.of(new int[] {3, 1}), PackKit.fixedSymbols(), PackKit.fixedDistances());
        byte[] far = PackKit.wrap(120, 156, bits.bytes(), PackKit.check(new byte[3]));
        CheckKit.due("a second packed piece", CheckKit.mount(withFolderRow(full, ImageKit.join(two(match.length), match))), 0);
        CheckKit.due("a match from one piece into the one before", CheckKit.mount(
                withFolderRow(full, ImageKit.join(two(far.length), far))), 3);
        byte[] crumbs = new byte[0];
        for (int i = 0; i < 30000; i++) {
            crumbs = crumbs.length > 90000 ? crumbs : i == 0 ? piece(1) : ImageKit.join(crumbs, crumbs);
        }
        CheckKit.due("very many pieces", CheckKit.mount(withFolderRow(crumbs)), 3);
    }

    private static void fragmentFaults() {
        int at = kit.tablesAt + 2;
        patched("the last u4 is not 0", 4, at + 12, four(1));
        patched("no bytes", 4, at + 8, four(0));
        patched("no bytes as they are", 4, at + 8, four(AS_IS));
        patched("a bit above", 4, at + 8, four(100 + 2 * AS_IS));
        patched("the highest bit", 4, at + 8, four(100 + AS_IS + (1 << 31)));
        patched("more than a block", 4, at + 8, four(4097 + AS_IS));
        patched("before 96", 4, at, eight(95));
        patched("far above", 4, at, eight(-50));
        patched("behind the data", 4, at, eight(kit.inodesAt - 99));
        patched("just before the inode row", 0, at, eight(kit.inodesAt - 100));
        patched("a whole block", 0, at + 8, four(4096 + AS_IS));
    }

    private static void inodeFaults() {
        patched("one inode more", 2, 4, four(2000));
        ImageKit more = new ImageKit();
        rootAlone(more);
        more.inodeCount = 2;
        CheckKit.due("one inode more than there are", CheckKit.mount(more.image()), 5);
        more.addInode(7, 2, four(1));
        more.inodeCount = 1;
        CheckKit.due("one inode less than there are", CheckKit.mount(more.image()), 5);
        more.inodeCount = 2;
        more.inodes.write(0);
        CheckKit.due("a byte behind the last one", CheckKit.mount(more.image()), 5);
        inode("type 0", 5, s, 0, two(0));
        inode("type 15", 5, s, 0, two(15));
        inode("type 263", 5, s, 0, two(263));
        inode("mode 4096", 5, s, 2, two(4096));
        inode("mode 4095", 0, s, 2, two(4095));
        inode("an owner that is no id", 5, s, 4, two(1));
        inode("a group that is no id", 5, s, 6, two(1));
        inode("a time", 0, s, 8, four(-1));
        inode("number 0", 5, s, 12, four(0));
        inode("number 9", 5, s, 12, four(9));
        inode("a number twice", 5, s, 12, four(7));
        inode("a number below 0 by sign", 5, s, 12, four(-8));
        inode("a directory's size 2", 5, d, 24, two(2));
        inode("a longer directory's size 2", 5, r, 20, four(2));
        inode("a longer directory's ones", 5, r, 36, four(0));
        inode("an index's name of 257", 5, r, 48, four(256));
        inode("an index's name far above", 5, r, 48, four(-1));
        inode("an index's name that runs out", 5, r, 48, four(1));
        inode("one index more", 5, r, 32, two(2));
        inode("one index less", 5, r, 32, two(0));
        inode("a link's ones", 5, l, 30, four(0));
        inode("a link without a target", 5, l, 20, four(0));
        inode("a target that is longer", 5, l, 20, four(7));
        inode("a target of 16385", 5, l, 20, four(16385));
        inode("a target far above", 5, l, 20, four(-1));
        inode("a device's ones", 5, p, 24, four(-2));
        inode("a device's number", 0, p, 20, four(12345));
        inode("a pipe's ones", 5, q, 20, four(-2));
        for (int size : new int[] {16384, 16385}) {
            ImageKit link = new ImageKit();
            int at = link.addInode(3, 2, four(1), four(size), new byte[size]);
            int told = link.addListing(ImageKit.head(1, at, 2), ImageKit.entry(at, 0, 3, "l"));
            link.root = ImageKit.reference(link.addFolder(1, told, link.folders.size(), 2, 3));
            CheckKit.due("a target of " + size, CheckKit.mount(link.image()), size == 16384 ? 0 : 5);
        }
    }

    /** Each type by itself, with its ones if it is extended, and with others. */
    private static void everyType() {
        byte[][] bodies = {
            ImageKit.join(four(0), four(2), two(3), two(0), four(1)),
            ImageKit.join(four(0), four(-1), four(0), four(0)),
            ImageKit.join(four(1), four(3), CheckKit.bytes("abc")),
            ImageKit.join(four(1), four(7)),
            ImageKit.join(four(1), four(8)),
            four(1),
            four(1),
            ImageKit.join(four(2), four(3), four(0), four(1), two(0), two(0)),
            ImageKit.join(eight(0), eight(0), eight(0), four(1), four(-1), four(0)),
        };
        for (int type = 1; type <= 14; type++) {
            for (int ones = -1; ones <= (type > 7 ? 0 : -1); ones++) {
                ImageKit one = new ImageKit();
                byte[] body = bodies[type < 10 ? type - 1 : type - 8];
                int at = one.addInode(type, 2, body, type > 7 ? four(ones) : new byte[0]);
                int kind = (type - 1) % 7 + 1;
                int told = one.addListing(ImageKit.head(1, at, 2), ImageKit.entry(at, 0, kind, "n"));
                one.root = ImageKit.reference(one.addFolder(1, told, one.folders.size(), kind == 1 ? 3 : 2, 3));
                CheckKit.due("type " + type + ", ones " + ones, CheckKit.mount(one.image()), ones < 0 ? 0 : 5);
                one.inodes.write(0);
                CheckKit.due("type " + type + ", a byte behind", CheckKit.mount(one.image()), 5);
            }
        }
        for (int type = 1; type <= 14; type++) {
            ImageKit last = new ImageKit();
            rootAlone(last);
            byte[] body = bodies[type < 10 ? type - 1 : type - 8];
            last.addInode(type, 2, Arrays.copyOf(body, body.length - 1));
            CheckKit.due("type " + type + ", cut short", CheckKit.mount(last.image()), 5);
        }
    }

    private static void fileFaults() {
        inode("the offset without a fragment", 0, x, 24, four(-1));
        inode("a fragment that is not there", 5, f, 44, four(1));
        inode("a fragment far above", 5, f, 44, four(-2));
        inode("a fragment without a rest", 5, x, 20, four(0));
        inode("offset and rest are a block and one", 5, f, 48, four(4096 - 49));
        inode("offset and rest are a block", 8, f, 48, four(4096 - 50));
        inode("an offset far above", 5, f, 48, four(-1));
        inode("a longer file's ones", 5, f, 52, four(0));
        inode("a size of 2 ^ 40", 5, f, 24, eight(1L << 40));
        inode("a size with the highest bit", 5, f, 24, eight(Long.MIN_VALUE + 50));
        inode("a size that has more blocks than the row", 5, f, 24, eight((1L << 39) + 50));
        inode("how many bytes are zeros is not looked at", 0, f, 32, eight(-1));
        inode("a begin without blocks is not looked at", 0, f, 16, eight(-1));
        inode("a block number with a bit above", 5, x, 32, four(4096 + 3 * AS_IS));
        inode("a block number with the least bit above", 5, x, 32, four(4096 + 2 * AS_IS));
        inode("a block number with the highest bit", 5, x, 32, four(Integer.MIN_VALUE + 4096 + AS_IS));
        inode("a block number of no bytes as they are", 5, x, 32, four(AS_IS));
        inode("a block number above a block", 5, x, 32, four(4097 + AS_IS));
        inode("a size with one block less", 5, x, 28, four(2 * 4096));
        inode("a size with a rest that has no number", 5, x, 28, four(3 * 4096 + 1));
    }

    private static void exportFaults() {
        int at = kit.fragmentList + 8 + 2;
        patched("a reference to another inode", 5, at, eight(ImageKit.reference(d)));
        patched("a reference into an inode", 5, at + 8, eight(ImageKit.reference(d) + 1));
        patched("a reference with a start that is none", 5, at + 16, eight(65536));
        patched("a reference with a great start", 5, at + 16, eight(1L << 48));
        patched("a reference far above", 5, at + 16, eight(-1));
        patched("a place beyond the row", 5, at + 16, eight(kit.inodes.size()));
        ImageKit wide = new ImageKit();
        int first = wide.addInode(3, 2, four(1), four(8168), new byte[8168]);
        int second = wide.addInode(7, 3, four(1));
        int told = wide.addListing(ImageKit.head(1, first, 2), ImageKit.entry(first, 0, 3, "a"),
                ImageKit.head(1, second, 3), ImageKit.entry(second, 0, 7, "b"));
        int top = wide.addFolder(1, told, wide.folders.size(), 2, 4);
        wide.root = ImageKit.reference(top);
        wide.exports.addAll(java.util.List.of(ImageKit.reference(top), 0L, ImageKit.reference(second)));
        CheckKit.due("an inode that begins the second piece", CheckKit.mount(wide.image()), 0);
        wide.exports.set(2, 8192L);
        CheckKit.due("the same inode, told by a place of 8192", CheckKit.mount(wide.image()), 5);
        wide.exports.set(2, ImageKit.reference(second));
        byte[] image = wide.image();
        int header = wide.foldersAt + 2 + told + 12 + 9;
        byte[] other = ImageKit.patched(image, header + 4, four(0));
        other = ImageKit.patched(other, header + 12, two(8192));
        CheckKit.due("an entry with a place of 8192", CheckKit.mount(other), 6);
    }

    private static void listingFaults() {
        inode("a start that is none", 6, d, 16, four(1));
        inode("an offset beyond the piece", 6, d, 26, two(kit.folders.size()));
        inode("an offset of another listing", 6, d, 26, two(listing));
        inode("a listing of one byte", 6, d, 24, two(4));
        inode("a listing with one byte more", 6, d, 24, two(21 + 4));
        inode("a listing with one byte less", 6, d, 24, two(21 + 2));
        inode("a listing that ends behind the row", 6, r, 20, four(kit.folders.size() - listing + 4));
        inode("a listing that ends far behind", 6, r, 20, four(-1));
        inode("a listing that ends behind an entry, not its header's last", 6, r, 20, four(second - listing + 12 + 9 + 3));
        inode("a listing that ends behind a header's last entry", 6, r, 20, four(second - listing + 3));
        inode("a listing that ends behind a header", 6, r, 20, four(second - listing + 12 + 3));
        folder("a header with one entry more", 6, listing, four(3));
        folder("a header with one entry less", 6, listing, four(1));
        folder("a header with 257 entries", 6, listing, four(256));
        folder("a header far above", 6, listing, four(-1));
        folder("a header's start that is none", 6, listing + 4, four(8194));
        folder("a header's start far above", 6, listing + 4, four(-1));
        folder("a header's number", 6, listing + 8, four(5));
        folder("a header's number that would run over", 6, listing + 8, four(-1));
        folder("a place in an inode", 6, listing + 12, two(d + 1));
        folder("a place of another inode", 6, listing + 12, two(f));
        folder("another number", 6, listing + 14, two(-1));
        folder("another kind", 6, listing + 16, two(2));
        folder("an extended kind", 6, listing + 12 + 9 + 4, two(9));
        folder("a name of no end", 6, listing + 18, two(65535));
        folder("a name of 257", 6, listing + 18, two(256));
        folder("a name with a byte 0", 6, listing + 20, new byte[] {0});
        folder("a name with a byte 47", 6, listing + 20, new byte[] {47});
        folder("a name of one 46", 6, listing + 20, new byte[] {46});
        folder("a name of another byte", 0, listing + 20, new byte[] {45});
        folder("the same name twice", 6, listing + 20, new byte[] {102});
        folder("names that are not in order", 6, listing + 20, new byte[] {(byte) 200});
        folder("names that are not in order, between headers", 6, second + 20, new byte[] {101});
        folder("the last name, without sign", 0, second + 12 + 27 + 8, new byte[] {(byte) 255});
    }

    private static byte[] folderOf(String... names) {
        ImageKit one = new ImageKit();
        int at = one.addLongFile(2, 0, -1, 0, 0, names.length);
        byte[] told = ImageKit.head(names.length, at, 2);
        for (String name : names) {
            told = ImageKit.join(told, ImageKit.entry(at, 0, 2, name));
        }
        int place = one.addListing(told);
        one.root = ImageKit.reference(one.addFolder(1, place, told.length, 2, 3));
        return one.image();
    }

    private static void manyListings() {
        CheckKit.due("names of 1 and 256", CheckKit.mount(folderOf("a", "b".repeat(256))), 0);
        CheckKit.due("a name of 257", CheckKit.mount(folderOf("a", "b".repeat(257))), 6);
        CheckKit.due("the name 46 46", CheckKit.mount(folderOf("..")), 6);
        CheckKit.due("the name 46 46 46", CheckKit.mount(folderOf("...")), 0);
        CheckKit.due("a beginning before", CheckKit.mount(folderOf("ab", "abc")), 0);
        CheckKit.due("a beginning behind", CheckKit.mount(folderOf("abc", "ab")), 6);
        CheckKit.due("127 before 128", CheckKit.mount(folderOf("a\u007f", "a\u0080")), 0);
        CheckKit.due("128 before 127", CheckKit.mount(folderOf("a\u0080", "a\u007f")), 6);
        String[] many = new String[256];
        for (int i = 0; i < many.length; i++) {
            many[i] = "n" + (1000 + i);
        }
        CheckKit.due("256 entries", CheckKit.mount(folderOf(many)), 0);
        String[] more = Arrays.copyOf(many, 257);
        more[256] = "o";
        CheckKit.due("257 entries", CheckKit.mount(folderOf(more)), 6);
        ImageKit shared = new ImageKit();
        int file = shared.addLongFile(2, 0, -1, 0, 0, 2);
        int told = shared.addListing(ImageKit.head(1, file, 2), ImageKit.entry(file, 0, 2, "f"));
        int size = shared.folders.size();
        int a = shared.addFolder(3, told, size, 2, 1);
        int b = shared.addFolder(4, told, size, 2, 1);
        int top = shared.addListing(ImageKit.head(2, a, 3), ImageKit.entry(a, 0, 1, "a"), ImageKit.entry(b, 1, 1, "b"));
        shared.root = ImageKit.reference(shared.addFolder(1, top, shared.folders.size() - top, 4, 5));
        CheckKit.due("two directories with one listing", CheckKit.mount(shared.image()), 0);
    }

    private static void indexFaults() {
        inode("an index's place", 6, r, 40, four(second - listing + 1));
        inode("an index of the first header", 6, r, 40, four(0));
        inode("an index far above", 6, r, 40, four(-1));
        inode("an index's start", 6, r, 44, four(8194));
        inode("an index's name", 6, r, 52, CheckKit.bytes("m"));
        for (int k = 0; k < 4; k++) {
            ImageKit wide = new ImageKit();
            int file = wide.addLongFile(2, 0, -1, 0, 0, 3);
            byte[] listing = new byte[0];
            int[] places = new int[3];
            for (int i = 0; i < 3; i++) {
                places[i] = listing.length;
                listing = ImageKit.join(listing, ImageKit.head(1, file, 2), ImageKit.entry(file, 0, 2, "abc".substring(i, i + 1)));
            }
            wide.addListing(listing);
            byte[] one = ImageKit.join(four(places[1]), four(0), four(0), CheckKit.bytes("b"));
            byte[] two = ImageKit.join(four(places[2]), four(0), four(0), CheckKit.bytes("c"));
            byte[][] both = {ImageKit.join(one, two), ImageKit.join(two, one), ImageKit.join(one, one), two};
            wide.root = ImageKit.reference(wide.addInode(8, 1, four(2), four(listing.length + 3), four(0), four(3),
                    two(k == 3 ? 1 : 2), two(0), four(-1), both[k]));
            CheckKit.due("indexes that rise, fall, stay, or leave one out: " + k, CheckKit.mount(wide.image()),
                    k == 0 || k == 3 ? 0 : 6);
        }
        for (int size : new int[] {256, 257}) {
            ImageKit named = new ImageKit();
            String name = "n".repeat(Math.min(256, size));
            int file = named.addLongFile(2, 0, -1, 0, 0, 2);
            byte[] listing = ImageKit.join(ImageKit.head(1, file, 2), ImageKit.entry(file, 0, 2, "a"),
                    ImageKit.head(1, file, 2), ImageKit.entry(file, 0, 2, name));
            named.addListing(listing);
            named.root = ImageKit.reference(named.addInode(8, 1, four(2), four(listing.length + 3), four(0), four(3), two(1),
                    two(0), four(-1), four(21), four(0), four(size - 1), CheckKit.bytes("n".repeat(size))));
            CheckKit.due("an index's name of " + size, CheckKit.mount(named.image()), size == 256 ? 0 : 5);
        }
        ImageKit first = new ImageKit();
        int one = first.addLongFile(2, 0, -1, 0, 0, 1);
        byte[] alone = ImageKit.join(ImageKit.head(1, one, 2), ImageKit.entry(one, 0, 2, "a"));
        first.addListing(alone);
        first.root = ImageKit.reference(first.addInode(8, 1, four(2), four(alone.length + 3), four(0), four(3), two(1), two(0),
                four(-1), four(0), four(0), four(0), CheckKit.bytes("a")));
        CheckKit.due("an index of the first header, with its name", CheckKit.mount(first.image()), 6);
        ImageKit empty = new ImageKit();
        empty.root = ImageKit.reference(empty.addInode(8, 1, four(2), four(3), four(-1), four(2), two(1), two(0),
                four(-1), four(0), four(0), four(0), CheckKit.bytes("a")));
        CheckKit.due("an index of an empty directory", CheckKit.mount(empty.image()), 6);
        ImageKit fine = new ImageKit();
        fine.root = ImageKit.reference(fine.addInode(8, 1, four(2), four(3), four(-1), four(2), two(0), two(65535), four(-1)));
        CheckKit.due("an empty directory's start and offset are not looked at", CheckKit.mount(fine.image()), 0);
    }

    private static void treeFaults() {
        patched("a ROOT that is a file", 7, 32, eight(ImageKit.reference(f)));
        patched("a ROOT that is another directory", 7, 32, eight(ImageKit.reference(d)));
        patched("a ROOT in an inode", 7, 32, eight(kit.root + 1));
        patched("a ROOT with a start that is none", 7, 32, eight(kit.root + 65536));
        patched("a ROOT far above", 7, 32, eight(kit.root + (1L << 63)));
        inode("the root's parent", 7, r, 28, four(1));
        inode("a directory's parent", 7, d, 28, four(9));
        inode("a directory that is its own parent", 7, d, 28, four(2));
        inode("the root's links", 7, r, 16, four(2));
        inode("a directory's links", 7, d, 20, four(3));
        inode("a file's links", 7, f, 40, four(1));
        inode("a link's links", 7, l, 16, four(2));
        inode("a device's links", 7, p, 16, four(0));
        inode("a pipe's links", 7, q, 16, four(65537));
        inode("a socket's links", 7, s, 16, four(-1));
        ImageKit twice = new ImageKit();
        int file = twice.addFile(2, 0, -1, 0, 0);
        int told = twice.addListing(ImageKit.head(2, file, 2), ImageKit.entry(file, 0, 2, "a"), ImageKit.entry(file, 0, 2, "b"));
        twice.root = ImageKit.reference(twice.addFolder(1, told, twice.folders.size(), 2, 3));
        CheckKit.due("a file that is not extended in two entries", CheckKit.mount(twice.image()), 7);
        ImageKit none = new ImageKit();
        none.addInode(7, 2, four(0));
        none.root = ImageKit.reference(none.addFolder(1, 0, 0, 2, 3));
        CheckKit.due("a socket in no entry", CheckKit.mount(none.image()), 7);
        ImageKit lost = new ImageKit();
        lost.root = ImageKit.reference(lost.addFolder(1, 0, 0, 2, 3));
        lost.addFolder(2, 0, 0, 2, 1);
        CheckKit.due("a directory in no entry", CheckKit.mount(lost.image()), 7);
        ImageKit both = new ImageKit();
        int inner = both.addFolder(2, 0, 0, 2, 1);
        told = both.addListing(ImageKit.head(2, inner, 2), ImageKit.entry(inner, 0, 1, "a"), ImageKit.entry(inner, 0, 1, "b"));
        both.root = ImageKit.reference(both.addFolder(1, told, both.folders.size(), 4, 3));
        CheckKit.due("a directory in two entries", CheckKit.mount(both.image()), 7);
        ImageKit up = new ImageKit();
        int self = 0;
        told = up.addListing(ImageKit.head(1, self, 1), ImageKit.entry(self, 0, 1, "a"));
        up.root = ImageKit.reference(up.addFolder(1, told, up.folders.size(), 3, 2));
        CheckKit.due("a root that is in an entry", CheckKit.mount(up.image()), 7);
        ImageKit ring = new ImageKit();
        int to2 = ring.addListing(ImageKit.head(1, 0, 2), ImageKit.entry(0, 0, 1, "a"));
        int size = ring.folders.size();
        int to3 = ring.addListing(ImageKit.head(1, 32, 3), ImageKit.entry(32, 0, 1, "a"));
        ring.addFolder(2, to3, size, 3, 3);
        ring.addFolder(3, to2, size, 3, 2);
        ring.root = ImageKit.reference(ring.addFolder(1, 0, 0, 2, 4));
        CheckKit.due("directories in a ring", CheckKit.mount(ring.image()), 7);
    }

    private static void deepTrees() {
        for (int depth = 99; depth <= 101; depth++) {
            ImageKit deep = new ImageKit();
            for (int i = depth; i >= 0; i--) {
                int listing = 0;
                int size = 0;
                if (i < depth) {
                    int below = 32 * (depth - i - 1);
                    listing = deep.addListing(ImageKit.head(1, below, i + 2), ImageKit.entry(below, 0, 1, "d"));
                    size = 21;
                }
                deep.root = ImageKit.reference(deep.addFolder(i + 1, listing, size, i < depth ? 3 : 2, i == 0 ? depth + 2 : i));
            }
            CheckKit.due("directories " + depth + " deep", CheckKit.mount(deep.image()), depth <= 100 ? 0 : 7);
        }
    }

    private static void dataFaults() {
        inode("a begin before 96", 8, x, 16, four(95));
        inode("a begin far above", 8, x, 16, four(-1));
        inode("a begin one later", 8, x, 16, four(197));
        inode("a block as it is that is short", 8, x, 32, four(4095 + AS_IS));
        inode("a block as it is, told as packed", 8, x, 32, four(4096));
        inode("a packed block, told as it is", 8, x, 40, four(4096 + AS_IS));
        inode("a packed block of one byte less", 8, x, 40, four(PackKit.pack(new byte[4096]).length - 1));
        inode("a block of zeros instead of the last one", 0, x, 40, four(0));
        inode("a rest beyond its fragment", 8, f, 48, four(51));
        inode("a rest at its fragment's end", 0, f, 48, four(50));
        patched("a fragment that is no packed row", 8, kit.tablesAt + 2 + 8, four(100));
        byte[] block = new byte[4096];
        Arrays.fill(block, (byte) 5);
        CheckKit.due("a packed block", fileOf(4096, PackKit.pack(block)), 0);
        CheckKit.due("a packed block of 4095", fileOf(4096, PackKit.pack(Arrays.copyOf(block, 4095))), 8);
        CheckKit.due("a packed block of 4097", fileOf(4096, PackKit.pack(Arrays.copyOf(block, 4097))), 8);
        CheckKit.due("a packed rest", fileOf(99, PackKit.pack(Arrays.copyOf(block, 99))), 0);
        CheckKit.due("a packed rest of less", fileOf(99, PackKit.pack(Arrays.copyOf(block, 98))), 8);
        CheckKit.due("a packed rest of more", fileOf(99, PackKit.pack(block)), 8);
        CheckKit.due("a packed fragment", fragmentOf(PackKit.pack(block), 0, 10), 0);
        CheckKit.due("a packed fragment of more than a block", fragmentOf(PackKit.pack(new byte[4097]), 0, 10), 8);
        CheckKit.due("the end of a packed fragment", fragmentOf(PackKit.pack(new byte[100]), 90, 10), 0);
        CheckKit.due("beyond a packed fragment", fragmentOf(PackKit.pack(new byte[100]), 91, 10), 8);
        CheckKit.due("a fragment of no bytes that nobody uses", fragmentOf(new byte[] {120, (byte) 156, 3, 0, 0, 0, 0, 1}, -1, 0), 0);
        CheckKit.due("a fragment with a fault that nobody uses", fragmentOf(new byte[] {120, (byte) 156, 3, 0, 0, 0, 0, 2}, -1, 0), 8);
    }

    private static int fileOf(int size, byte[] packed) {
        ImageKit one = new ImageKit();
        int at = one.addFile(2, one.addData(packed), -1, 0, size, packed.length);
        return mountOf(one, at);
    }

    private static int fragmentOf(byte[] packed, int offset, int rest) {
        ImageKit one = new ImageKit();
        one.fragments.add(new long[] {one.addData(packed), packed.length, 0});
        int at = one.addFile(2, 0, offset < 0 ? -1 : 0, offset, rest);
        return mountOf(one, at);
    }

    private static int mountOf(ImageKit one, int file) {
        int told = one.addListing(ImageKit.head(1, file, 2), ImageKit.entry(file, 0, 2, "f"));
        one.root = ImageKit.reference(one.addFolder(1, told, one.folders.size(), 2, 3));
        return CheckKit.mount(one.image());
    }

    /** Blocks that all begin at the same bytes come to much more than the image has. */
    private static void dataLimit() {
        byte[] block = new byte[65536];
        Arrays.fill(block, (byte) 9);
        byte[] packed = PackKit.pack(block);
        for (int more = 0; more < 2; more++) {
            ImageKit many = new ImageKit();
            many.log = 16;
            int begin = many.addData(packed);
            many.fragments.add(new long[] {begin, packed.length, 0});
            byte[] told = ImageKit.head(63 + more, 0, 2);
            for (int i = 0; i < 63 + more; i++) {
                int rest = i < 63 ? 0 : 1;
                int at = rest == 0 ? many.addFile(2 + i, begin, -1, 0, 65536, packed.length)
                        : many.addFile(2 + i, begin, -1, 0, 1, 1 + AS_IS);
                told = ImageKit.join(told, ImageKit.entry(at, i, 2, "n" + (100 + i)));
            }
            many.addListing(told);
            many.root = ImageKit.reference(many.addFolder(1, 0, told.length, 2, many.made + 2));
            CheckKit.due("blocks that come to 4194304 and " + more, CheckKit.mount(many.image()), more == 0 ? 0 : 8);
        }
    }

    /** All of the same byte: as many fragments as may be, and one more. */
    private static void manyFragments() {
        for (int many : new int[] {512, 513, 1024, 1025, 4096, 4097}) {
            ImageKit kits = new ImageKit();
            int begin = kits.addData(new byte[] {1});
            for (int i = 0; i < many; i++) {
                kits.fragments.add(new long[] {begin, 1 + AS_IS, 0});
            }
            int at = kits.addFile(2, 0, many - 1, 0, 1);
            CheckKit.due(many + " fragments", mountOf(kits, at), many <= 1024 ? 0 : many <= 4096 ? 8 : 1);
        }
    }

    /** The root need not have the number 1: a file may, and is looked at as well. */
    private static void fileOne() {
        for (int wrong = 0; wrong < 2; wrong++) {
            ImageKit one = new ImageKit();
            int at = one.addFile(1, one.addData(PackKit.pack(new byte[4096 - wrong])), -1, 0, 4096, PackKit.pack(new byte[4096 - wrong]).length);
            int told = one.addListing(ImageKit.head(1, at, 1), ImageKit.entry(at, 0, 2, "f"));
            one.root = ImageKit.reference(one.addFolder(2, told, one.folders.size(), 2, 3));
            CheckKit.due("a file with the number 1", CheckKit.mount(one.image()), wrong == 0 ? 0 : 8);
        }
    }

    private static void firstOfTwo() {
        byte[][] spoiled = {
            ImageKit.patched(good, kit.inodesAt + 2 + x + 16, four(95)),
            ImageKit.patched(good, kit.inodesAt + 2 + r + 16, four(2)),
            ImageKit.patched(good, kit.foldersAt + 2 + listing + 16, two(2)),
            ImageKit.patched(good, kit.inodesAt + 2 + s, two(0)),
            ImageKit.patched(good, kit.tablesAt + 2 + 12, four(1)),
        };
        int[] faults = {8, 7, 6, 5, 4};
        for (int i = 0; i < 5; i++) {
            CheckKit.due("a fault " + faults[i], CheckKit.mount(spoiled[i]), faults[i]);
            for (int j = i + 1; j < 5; j++) {
                byte[] both = spoiled[i].clone();
                for (int at = 0; at < both.length; at++) {
                    both[at] = both[at] == good[at] ? spoiled[j][at] : both[at];
                }
                CheckKit.due("faults " + faults[i] + " and " + faults[j], CheckKit.mount(both), faults[j]);
            }
        }
    }

    /** Until when an image is mounted. */
    private static void whatIsMounted() {
        FrozenVolume v = new FrozenVolume();
        CheckKit.setImage(v, good);
        CheckKit.due("not mounted yet", v.about(1, 0), -1);
        CheckKit.due("mount", v.mount(), 0);
        CheckKit.due("mounted", v.about(1, 0), 1);
        v.patch(-1, 0);
        v.patch(good.length, 0);
        v.keep(good.length + 1);
        v.freeze(11, 0, 0);
        CheckKit.make(v, 0, 2, "new");
        CheckKit.due("mounted after refusals", v.about(8, 0), 7);
        v.patch(8, good[8]);
        CheckKit.due("not mounted after patch", v.about(1, 0), -1);
        v.mount();
        v.keep(good.length);
        CheckKit.due("not mounted after keep", v.about(1, 0), -1);
        v.mount();
        v.freeze(12, 0, 0);
        CheckKit.due("not mounted after freeze", v.about(1, 0), -1);
        CheckKit.due("mount of the frozen one", v.mount(), 0);
        CheckKit.due("its two inodes", v.about(2, 0), 2);
        CheckKit.due("and no third", v.about(3, 0), -1);
        int was = v.patch(0, 1);
        CheckKit.due("mount with a fault", v.mount(), 1);
        CheckKit.due("not mounted", v.about(1, 0), -1);
        v.patch(0, was);
        CheckKit.due("mounted again", v.mount(), 0);
        CheckKit.due("mounted twice", v.mount(), 0);
        CheckKit.due("as before", v.about(2, 0), 2);
    }
}
