import java.util.Arrays;

/** Promise 18, the edges of faults 2, PLACES, and 3, PIECES, each sentence by itself. */
public final class PieceEdgeTest {
    private static final MountKit SAMPLE = new MountKit();

    public static void main(String[] args) {
        CheckKit.due("the sample", CheckKit.mount(SAMPLE.good), 0);
        listsEndBeforeUsed();
        listsOfOneAndTwo();
        firstTableBegins();
        otherTablesBegin();
        lastListEnds();
        piecesAreWhereTold();
        piecesEndWhereTheListBegins();
        inodeRowEnds();
        headsOfRows();
        headsOfTables();
        packedHeads();
        packedPieces();
        packedPieceLengths();
        allButTheLast();
        allButTheLastOfATable();
        lastOfAByte();
        lastOfATable();
        inodeRowOfMost();
        directoryRowOfMost();
        rowsWithoutPieces();
        CheckKit.finish("PieceEdgeTest");
    }

    private static void at(String what, int fault, int place, int bytes, long n) {
        SAMPLE.patched(what + " " + n, fault, place, ImageKit.little(bytes, n));
    }

    private static void listsEndBeforeUsed() {
        CheckKit.sentence(18, "each list, with a u8 for each piece that the table's entries need, ends not behind USED");
        int[] fields = {80, 88, 48};
        int[] lists = {SAMPLE.kit.fragmentList, SAMPLE.kit.exportList, SAMPLE.kit.idList};
        int size = SAMPLE.good.length;
        for (int i = 0; i < 3; i++) {
            at("a list at", 0, fields[i], 8, lists[i]);
            for (long other : new long[] {0, 1, 95, 96, lists[i] - 8, lists[i] - 1, lists[i] + 1, lists[i] + 8, size - 7, size, size + 1,
                Integer.MAX_VALUE, 4294967296L + lists[i], Long.MAX_VALUE, Long.MIN_VALUE + lists[i], -8, -2}) {
                at("list " + i + " at", 2, fields[i], 8, other);
            }
        }
        at("an id list of ones", 2, 48, 8, -1);
        at("an export list of ones, though it is there", 2, 88, 8, -1);
    }

    private static ImageKit withIds(int many) {
        ImageKit one = MountKit.rootAlone();
        one.ids = new int[many];
        return one;
    }

    /** So many sockets, whose table of exports has the root behind them. */
    private static ImageKit withExports(int many) {
        String[] names = new String[many - 1];
        for (int i = 0; i < names.length; i++) {
            names[i] = "" + (10000 + i);
        }
        ImageKit one = new ImageKit();
        byte[] told = new byte[0];
        for (int i = 0; i < names.length; i++) {
            int place = one.addInode(7, 2 + i, MountKit.four(1));
            if (i % 256 == 0 || place / 8192 != (place - 20) / 8192) {
                int left = Math.min(256 - i % 256, names.length - i);
                int fit = (8192 - place % 8192 + 19) / 20;
                told = ImageKit.join(told, ImageKit.head(Math.min(left, fit), place, 2 + i));
            }
            told = ImageKit.join(told, ImageKit.entry(place, 0, 7, names[i]));
            // What the number is more than the header's: the entry stands last.
            int header = lastHeader(i);
            System.arraycopy(MountKit.two(i - header), 0, told, told.length - 5 - 6, 2);
        }
        one.addListing(told);
        int root = one.addInode(8, 1, MountKit.four(2), MountKit.four(told.length + 3), MountKit.four(0), MountKit.four(many + 1),
                MountKit.two(0), MountKit.two(0), MountKit.four(-1));
        one.root = ImageKit.reference(root);
        one.exports.add(one.root);
        for (int i = 0; i < names.length; i++) {
            one.exports.add(ImageKit.reference(20 * i));
        }
        return one;
    }

    /** The first inode of 20 bytes under the header of inode i: headers begin with each 256th, and with each piece. */
    private static int lastHeader(int i) {
        int header = i;
        while (header % 256 != 0 && 20 * header / 8192 == (20 * header - 20) / 8192) {
            header--;
        }
        return header;
    }

    private static ImageKit withFragments(int many) {
        ImageKit one = MountKit.rootAlone();
        int begin = one.addData(new byte[1]);
        for (int i = 0; i < many; i++) {
            one.fragments.add(new long[] {begin, 1 + MountKit.AS_IS, 0});
        }
        return one;
    }

    private static void listsOfOneAndTwo() {
        CheckKit.sentence(18, "with a u8 for each piece that the table's entries need");
        for (int more = -1; more <= 1; more++) {
            ImageKit ids = withIds(2048 + more);
            MountKit.mounts("ids: 2048 and " + more, ids, 0);
            ImageKit exports = withExports(1024 + more);
            MountKit.mounts("exports: 1024 and " + more, exports, 0);
            ImageKit fragments = withFragments(512 + more);
            MountKit.mounts("fragments: 512 and " + more, fragments, 0);
        }
        for (int many : new int[] {2048, 2049, 3072, 3073, 3100}) {
            // With many more inodes than these the image would be too long, as its rows are not packed.
            MountKit.mounts("exports: " + many, withExports(many), 0);
        }
        byte[] one = withIds(2048).image();
        CheckKit.due("2049 ids with a list of one", CheckKit.mount(ImageKit.patched(one, 26, MountKit.two(2049))), 2);
        CheckKit.due("2047 ids with a list of one", CheckKit.mount(ImageKit.patched(one, 26, MountKit.two(2047))), 3);
        byte[] two = withIds(2049).image();
        CheckKit.due("2048 ids with a list of two", CheckKit.mount(ImageKit.patched(two, 26, MountKit.two(2048))), 2);
        CheckKit.due("2050 ids with a list of two", CheckKit.mount(ImageKit.patched(two, 26, MountKit.two(2050))), 3);
        one = withFragments(512).image();
        CheckKit.due("513 fragments with a list of one", CheckKit.mount(ImageKit.patched(one, 16, MountKit.four(513))), 2);
        one = withExports(1024).image();
        CheckKit.due("1025 exports with a list of one", CheckKit.mount(ImageKit.patched(one, 4, MountKit.four(1025))), 2);
    }

    private static void firstTableBegins() {
        CheckKit.sentence(18, "the first table's pieces begin, as its list's first number tells, where those of the directory row end");
        for (int first = 0; first < 3; first++) {
            ImageKit one = MountKit.rootAlone();
            if (first == 0) {
                one.fragments.add(new long[] {one.addData(new byte[1]), 1 + MountKit.AS_IS, 0});
            } else if (first == 1) {
                one.exports.add(one.root);
            }
            one.folderPieces = MountKit.piece(5);
            byte[] image = one.image();
            int list = first == 0 ? one.fragmentList : first == 1 ? one.exportList : one.idList;
            CheckKit.due("first table " + first, CheckKit.mount(image), 0);
            for (long other : new long[] {0, 96, one.foldersAt - 1, one.foldersAt, one.tablesAt - 1, one.tablesAt + 1, list, list + 1, -1,
                4294967296L + one.tablesAt, Long.MIN_VALUE + one.tablesAt}) {
                CheckKit.due("first table " + first + " at " + other, CheckKit.mount(ImageKit.patched(image, list, MountKit.eight(other))), 2);
            }
            one.gaps[1] = 1;
            MountKit.mounts("a byte before it", one, 2);
            one.gaps[1] = 0;
            one.folderPieces = MountKit.piece(5);
            one.folderPieces[0]++;
            MountKit.mounts("a directory row that ends a byte later", one, 2);
            one.folderPieces[0] -= 2;
            MountKit.mounts("a directory row that ends a byte earlier", one, 2);
        }
    }

    private static void otherTablesBegin() {
        CheckKit.sentence(18, "those of each other table where the list of the table before ends");
        for (int gap = 2; gap <= 3; gap++) {
            ImageKit one = new MountKit().kit;
            MountKit.mounts("no byte between the tables", one, 0);
            one.gaps[gap] = 1;
            MountKit.mounts("a byte before table " + gap, one, 2);
            one.gaps[gap] = 8;
            MountKit.mounts("eight bytes before table " + gap, one, 2);
        }
        for (int list : new int[] {SAMPLE.kit.exportList, SAMPLE.kit.idList}) {
            int before = list == SAMPLE.kit.exportList ? SAMPLE.kit.fragmentList + 8 : SAMPLE.kit.exportList + 8;
            at("a table at", 0, list, 8, before);
            at("a table at", 2, list, 8, before - 1);
            at("a table at", 2, list, 8, before + 1);
            at("a table at", 2, list, 8, -1);
        }
    }

    private static void lastListEnds() {
        CheckKit.sentence(18, "the last list ends at USED");
        ImageKit one = MountKit.rootAlone();
        one.gaps[5] = 1;
        MountKit.mounts("a byte behind it that is used", one, 2);
        one.gaps[5] = 8;
        MountKit.mounts("eight bytes behind it that are used", one, 2);
        byte[] image = one.image();
        CheckKit.due("the same, not used", CheckKit.mount(ImageKit.patched(image, 40, MountKit.eight(image.length - 8))), 0);
        CheckKit.due("one of them used", CheckKit.mount(ImageKit.patched(image, 40, MountKit.eight(image.length - 7))), 2);
        CheckKit.due("one used too few", CheckKit.mount(ImageKit.patched(image, 40, MountKit.eight(image.length - 9))), 2);
    }

    private static void piecesAreWhereTold() {
        CheckKit.sentence(18, "pieces are where their list tells");
        ImageKit one = withIds(4096);
        byte[] image = one.image();
        CheckKit.due("two pieces", CheckKit.mount(image), 0);
        int second = one.tablesAt + 8194;
        for (long other : new long[] {0, one.tablesAt, second - 1, second + 1, second + 8194, -1, second + 4294967296L}) {
            CheckKit.due("the second one at " + other, CheckKit.mount(ImageKit.patched(image, one.idList + 8, MountKit.eight(other))), 2);
        }
        byte[] turned = ImageKit.patched(image, one.idList, ImageKit.join(MountKit.eight(second), MountKit.eight(one.tablesAt)));
        CheckKit.due("told the other way round", CheckKit.mount(turned), 2);
    }

    private static void piecesEndWhereTheListBegins() {
        CheckKit.sentence(18, "and end where it begins");
        ImageKit one = MountKit.rootAlone();
        one.gaps[4] = 1;
        MountKit.mounts("a byte before the list", one, 2);
        one.gaps[4] = 0;
        one.idPieces = new byte[][] {ImageKit.join(MountKit.two(32768 + 4), new byte[3])};
        MountKit.mounts("a piece that ends a byte behind the list's begin", one, 2);
        one.idPieces = new byte[][] {ImageKit.join(MountKit.two(32768 + 4), new byte[5])};
        MountKit.mounts("a piece that ends a byte before it", one, 2);
        one.idPieces = new byte[][] {ImageKit.join(MountKit.two(32768 + 4), new byte[4])};
        MountKit.mounts("a piece that ends just there", one, 0);
        one.idPieces = new byte[][] {{0}};
        MountKit.mounts("half a head", one, 2);
        one.idPieces = new byte[][] {{}};
        MountKit.mounts("no head", one, 2);
    }

    private static void inodeRowEnds() {
        CheckKit.sentence(18, "The inode row's pieces end just where the directory row begins.");
        ImageKit one = MountKit.rootAlone();
        MountKit.mounts("just there", one, 0);
        one.gaps[0] = 1;
        MountKit.mounts("a byte before", one, 2);
        one.gaps[0] = 2;
        MountKit.mounts("two bytes before, as a head of no bytes", one, 2);
        one.gaps[0] = 0;
        byte[] image = one.image();
        CheckKit.due("a byte behind", CheckKit.mount(ImageKit.patched(image, one.inodesAt, MountKit.two(32768 + 33))), 2);
        CheckKit.due("a byte before, and half a head", CheckKit.mount(ImageKit.patched(image, one.inodesAt, MountKit.two(32768 + 31))), 2);
    }

    private static void headsOfRows() {
        CheckKit.sentence(18, "Every head tells 1 to 8192 bytes.");
        for (int n : new int[] {0, 1, 2, 8191, 8192, 8193, 16384, 32767}) {
            byte[] image = MountKit.withFolderRow(ImageKit.join(MountKit.two(32768 + n), new byte[n]));
            CheckKit.due("a piece of " + n + " as it is", CheckKit.mount(image), n >= 1 && n <= 8192 ? 0 : 2);
        }
        for (int n : new int[] {0, 8193, 32767}) {
            ImageKit one = MountKit.rootAlone();
            one.inodePieces = ImageKit.join(MountKit.two(32768 + n), new byte[n]);
            MountKit.mounts("an inode piece of " + n + " as it is", one, 2);
            one.inodePieces = ImageKit.join(MountKit.two(n), new byte[n]);
            MountKit.mounts("an inode piece of " + n + ", packed", one, 2);
        }
    }

    private static void headsOfTables() {
        CheckKit.sentence(18, "a piece is a u2, its HEAD: how many bytes follow, 1 to 8192, and 32768 more if these are the piece as it is");
        for (int n : new int[] {0, 1, 8192, 8193}) {
            for (int asIs : new int[] {0, 32768}) {
                ImageKit one = MountKit.rootAlone();
                one.idPieces = new byte[][] {ImageKit.join(MountKit.two(asIs + n), new byte[n])};
                MountKit.mounts("an id piece of " + n + ", " + asIs, one, n < 1 || n > 8192 ? 2 : 3);
            }
        }
        ImageKit one = withIds(2048);
        one.idPieces = new byte[][] {ImageKit.join(MountKit.two(32768 + 8192), new byte[8192])};
        MountKit.mounts("an id piece of 8192 for 2048", one, 0);
    }

    /** A packed row of one stored part. */
    private static byte[] storedRow(int n) {
        return ImageKit.join(new byte[] {120, (byte) 156, 1}, MountKit.two(n), MountKit.two(65535 - n), new byte[n],
                new byte[] {(byte) (n >> 8), (byte) n, 0, 1});
    }

    private static void packedHeads() {
        CheckKit.sentence(18, "otherwise they are a packed row (see below) of it");
        for (int n : new int[] {1, 8180, 8181, 8182}) {
            byte[] packed = storedRow(n);
            byte[] image = MountKit.withFolderRow(ImageKit.join(MountKit.two(packed.length), packed));
            CheckKit.due("a packed row of " + packed.length + " bytes", CheckKit.mount(image), packed.length <= 8192 ? 0 : 2);
        }
    }

    private static void packedPieces() {
        CheckKit.sentence(18, "each that is packed is a packed row, without a fault");
        SAMPLE.kit.packs = true;
        byte[] packed = SAMPLE.kit.image();
        CheckKit.due("the sample, packed", CheckKit.mount(packed), 0);
        int[] pieces = {SAMPLE.kit.inodesAt, SAMPLE.kit.foldersAt, SAMPLE.kit.tablesAt, SAMPLE.kit.fragmentList + 8, SAMPLE.kit.exportList + 8};
        for (int i = 0; i < pieces.length; i++) {
            int size = packed[pieces[i]] & 255 | (packed[pieces[i] + 1] & 127) << 8;
            byte[] broken = packed.clone();
            broken[pieces[i] + 1 + size] ^= 1;
            CheckKit.due("another check, row " + i, CheckKit.mount(broken), 3);
            broken = packed.clone();
            broken[pieces[i] + 2] ^= 1;
            CheckKit.due("another first byte, row " + i, CheckKit.mount(broken), 3);
            broken = packed.clone();
            broken[pieces[i] + 3] ^= 32;
            CheckKit.due("another second byte, row " + i, CheckKit.mount(broken), 3);
        }
        SAMPLE.kit.packs = false;
        SAMPLE.kit.image();
        at("a piece as it is, told to be packed", 3, SAMPLE.kit.inodesAt, 2, SAMPLE.kit.inodes.size());
        at("the same of a table", 3, SAMPLE.kit.tablesAt, 2, 16);
    }

    private static void packedPieceLengths() {
        CheckKit.sentence(18, "of at most 8192 bytes");
        for (int n : new int[] {8191, 8192, 8193, 65536}) {
            CheckKit.due("a packed piece of " + n, CheckKit.mount(MountKit.withFolderRow(MountKit.packedPiece(n))), n <= 8192 ? 0 : 3);
        }
    }

    private static void allButTheLast() {
        CheckKit.sentence(18, "all of a row but the last have just 8192");
        for (int n : new int[] {1, 8190, 8191, 8192}) {
            byte[][] firsts = {MountKit.piece(n), MountKit.packedPiece(n)};
            for (byte[] first : firsts) {
                CheckKit.due("first of " + n, CheckKit.mount(MountKit.withFolderRow(first, MountKit.piece(1))), n == 8192 ? 0 : 3);
                CheckKit.due("second of " + n, CheckKit.mount(MountKit.withFolderRow(MountKit.piece(8192), first, MountKit.piece(8192))), n == 8192 ? 0 : 3);
                CheckKit.due("last of " + n, CheckKit.mount(MountKit.withFolderRow(MountKit.piece(8192), first)), 0);
            }
        }
        CheckKit.due("a first packed one of 8193", CheckKit.mount(MountKit.withFolderRow(MountKit.packedPiece(8193), MountKit.piece(1))), 3);
        ImageKit one = MountKit.rootAlone();
        byte[] row = one.inodes.toByteArray();
        one.inodePieces = ImageKit.join(MountKit.two(32768 + 16), Arrays.copyOf(row, 16), MountKit.two(32768 + 16), Arrays.copyOfRange(row, 16, 32));
        MountKit.mounts("an inode row in two short pieces", one, 3);
    }

    private static void allButTheLastOfATable() {
        CheckKit.sentence(18, "all of a row but the last have just 8192, the last one a byte at least, and that of a table just what is left");
        for (int n : new int[] {8188, 8191, 8192}) {
            ImageKit one = withIds(2049);
            one.idPieces = new byte[][] {MountKit.piece(n), MountKit.piece(8196 - n)};
            MountKit.mounts("ids in pieces of " + n + " and what is left", one, n == 8192 ? 0 : 3);
            one.idPieces = new byte[][] {MountKit.packedPiece(n), MountKit.packedPiece(8196 - n)};
            MountKit.mounts("the same, packed", one, n == 8192 ? 0 : 3);
        }
    }

    private static void lastOfAByte() {
        CheckKit.sentence(18, "the last one a byte at least");
        byte[] nothing = {8, 0, 120, (byte) 156, 3, 0, 0, 0, 0, 1};
        CheckKit.due("a packed piece of no bytes", CheckKit.mount(MountKit.withFolderRow(nothing)), 3);
        CheckKit.due("a packed piece of one byte", CheckKit.mount(MountKit.withFolderRow(MountKit.packedPiece(1))), 0);
        CheckKit.due("no bytes behind a full piece", CheckKit.mount(MountKit.withFolderRow(MountKit.piece(8192), nothing)), 3);
        CheckKit.due("one byte behind a full piece", CheckKit.mount(MountKit.withFolderRow(MountKit.piece(8192), MountKit.packedPiece(1))), 0);
        nothing[1] = (byte) 128;
        CheckKit.due("the same bytes as they are", CheckKit.mount(MountKit.withFolderRow(nothing)), 0);
    }

    private static void lastOfATable() {
        CheckKit.sentence(18, "and that of a table just what is left");
        for (int n : new int[] {3, 4, 5, 8}) {
            ImageKit one = MountKit.rootAlone();
            one.idPieces = new byte[][] {MountKit.piece(n)};
            MountKit.mounts("one id in " + n + " bytes", one, n == 4 ? 0 : 3);
            one.idPieces = new byte[][] {MountKit.packedPiece(n)};
            MountKit.mounts("one id in " + n + " packed bytes", one, n == 4 ? 0 : 3);
        }
        for (int n : new int[] {3, 4, 5}) {
            ImageKit one = withIds(2049);
            one.idPieces = new byte[][] {MountKit.piece(8192), MountKit.piece(n)};
            MountKit.mounts("2049 ids in 8192 and " + n, one, n == 4 ? 0 : 3);
        }
        for (int n : new int[] {8191, 8192}) {
            ImageKit one = withIds(2048);
            one.idPieces = new byte[][] {MountKit.piece(n)};
            MountKit.mounts("2048 ids in " + n, one, n == 8192 ? 0 : 3);
        }
        // With one fragment, or one inode, more in SUPER than the table has: what is left is another number of bytes.
        at("fragments in a piece of 16:", 3, 16, 4, 2);
        at("inodes in a piece of exports of 64:", 3, 4, 4, 9);
        at("inodes in a piece of exports of 64:", 3, 4, 4, 7);
    }

    /** The root and four links, whose inodes have so many bytes together. */
    private static ImageKit inodeRowOf(int bytes) {
        ImageKit one = new ImageKit();
        int left = bytes - 40 - 4 * 24;
        byte[] told = new byte[0];
        for (int i = 0; i < 4; i++) {
            int n = i < 3 ? 16384 : left - 3 * 16384;
            int at = one.addInode(3, 2 + i, MountKit.four(1), MountKit.four(n), new byte[n]);
            told = ImageKit.join(told, ImageKit.head(1, at, 2 + i), ImageKit.entry(at, 0, 3, "" + i));
        }
        one.addListing(told);
        one.root = ImageKit.reference(one.addInode(8, 1, MountKit.four(2), MountKit.four(told.length + 3), MountKit.four(0),
                MountKit.four(6), MountKit.two(0), MountKit.two(0), MountKit.four(-1)));
        CheckKit.due("bytes of the row", one.inodes.size(), bytes);
        return one;
    }

    private static void inodeRowOfMost() {
        CheckKit.sentence(18, "The rows of inodes and of directories have 65536 bytes at most.");
        for (int bytes : new int[] {65535, 65536, 65537}) {
            ImageKit one = inodeRowOf(bytes);
            MountKit.mounts("an inode row of " + bytes, one, bytes <= 65536 ? 0 : 3);
            one.packs = true;
            byte[] image = one.image();
            // References are to starts of packed pieces then: only the pieces themselves hold.
            CheckKit.due("the same, packed", CheckKit.mount(image) == 3 ? 3 : 0, bytes <= 65536 ? 0 : 3);
        }
    }

    private static void directoryRowOfMost() {
        CheckKit.sentence(18, "The rows of inodes and of directories have 65536 bytes at most.");
        byte[] full = MountKit.packedPiece(8192);
        byte[] seven = ImageKit.join(full, full, full, full, full, full, full);
        CheckKit.due("65535", CheckKit.mount(MountKit.withFolderRow(seven, MountKit.packedPiece(8191))), 0);
        CheckKit.due("65536", CheckKit.mount(MountKit.withFolderRow(seven, full)), 0);
        CheckKit.due("65537", CheckKit.mount(MountKit.withFolderRow(seven, full, MountKit.piece(1))), 3);
        CheckKit.due("65537, packed", CheckKit.mount(MountKit.withFolderRow(seven, full, MountKit.packedPiece(1))), 3);
        CheckKit.due("twice as many", CheckKit.mount(MountKit.withFolderRow(seven, full, seven, full)), 3);
        byte[] crumbs = MountKit.piece(1);
        while (crumbs.length < 90000) {
            crumbs = ImageKit.join(crumbs, crumbs);
        }
        CheckKit.due("very many pieces", CheckKit.mount(MountKit.withFolderRow(crumbs)), 3);
    }

    private static void rowsWithoutPieces() {
        CheckKit.sentence(18, "A ROW of bytes is cut in PIECES of 8192 bytes, the last one of what is left");
        MountKit.mounts("a directory row without pieces", MountKit.rootAlone(), 0);
        ImageKit none = MountKit.rootAlone();
        none.inodePieces = new byte[0];
        MountKit.mounts("an inode row without pieces", none, 5);
    }
}
