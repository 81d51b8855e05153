import java.util.Arrays;

/** Images for mounting: one with parts of all sorts, and small ones that have just what a test is about. */
final class MountKit {
    static final int AS_IS = 16777216;

    /** The sample's parts: where inodes and listings are in their rows. */
    final ImageKit kit = new ImageKit();
    final byte[] good;
    final int x;
    final int d;
    final int f;
    final int l;
    final int p;
    final int q;
    final int s;
    final int r;
    final int listing;
    final int second;

    /**
     * A tree with every kind, extended and not, two headers and an index, a fragment, and blocks of all sorts.
     * Inodes: 1 the root r (8), 2 the directory d (1), 3 the file x in it (2), 4 the file f, also g (9), 5 the link l (10),
     * 6 the device p (11), 7 the pipe q (13), 8 the socket s (7).
     */
    MountKit() {
        byte[] rests = new byte[100];
        byte[] block = new byte[4096];
        Arrays.fill(block, (byte) 97);
        for (int i = 0; i < 100; i++) {
            rests[i] = (byte) (i + 1);
        }
        kit.fragments.add(new long[] {kit.addData(rests), 100 + AS_IS, 0});
        int begin = kit.addData(block);
        byte[] packed = PackKit.pack(block);
        kit.addData(packed);
        int inner = kit.addListing(ImageKit.head(1, 0, 3), ImageKit.entry(0, 0, 2, "x"));
        int size = kit.folders.size();
        x = kit.addFile(3, begin, -1, 77, 3 * 4096, 4096 + AS_IS, 0, packed.length);
        d = kit.addFolder(2, inner, size, 2, 1);
        f = kit.addLongFile(4, 0, 0, 10, 50, 2);
        l = kit.addInode(10, 5, four(1), four(6), CheckKit.bytes("target"), four(-1));
        p = kit.addInode(11, 6, four(1), four(-3), four(-1));
        q = kit.addInode(13, 7, four(1), four(-1));
        s = kit.addInode(7, 8, four(1));
        listing = kit.addListing(ImageKit.head(3, d, 4), ImageKit.entry(d, -2, 1, "d"),
                ImageKit.entry(f, 0, 2, "f"), ImageKit.entry(f, 0, 2, "g"));
        second = kit.addListing(ImageKit.head(4, l, 5), ImageKit.entry(l, 0, 3, "l"), ImageKit.entry(p, 1, 4, "p"),
                ImageKit.entry(q, 2, 6, "q"), ImageKit.entry(s, 3, 7, "s"));
        r = kit.addInode(8, 1, four(3), four(kit.folders.size() - listing + 3), four(0), four(9), two(1), two(listing),
                four(-1), four(second - listing), four(0), four(0), CheckKit.bytes("l"));
        kit.root = ImageKit.reference(r);
        for (int place : new int[] {r, d, x, f, l, p, q, s}) {
            kit.exports.add(ImageKit.reference(place));
        }
        good = kit.image();
    }

    static byte[] two(long n) {
        return ImageKit.little(2, n);
    }

    static byte[] four(long n) {
        return ImageKit.little(4, n);
    }

    static byte[] eight(long n) {
        return ImageKit.little(8, n);
    }

    /** What mount answers to the sample with these bytes at a place. */
    void patched(String what, int fault, int at, byte[] bytes) {
        CheckKit.due(what, CheckKit.mount(ImageKit.patched(good, at, bytes)), fault);
    }

    /** The same, of a field in an inode. */
    void inode(String what, int fault, int inode, int field, byte[] bytes) {
        patched(what, fault, kit.inodesAt + 2 + inode + field, bytes);
    }

    /** The same, of a place in the directory row. */
    void folder(String what, int fault, int place, byte[] bytes) {
        patched(what, fault, kit.foldersAt + 2 + place, bytes);
    }

    static void mounts(String what, ImageKit kit, int fault) {
        CheckKit.due(what, CheckKit.mount(kit.image()), fault);
    }

    /** The root alone. */
    static ImageKit rootAlone() {
        ImageKit one = new ImageKit();
        one.root = ImageKit.reference(one.addFolder(1, 0, 0, 2, 2));
        return one;
    }

    /** What follows an inode's number, for an inode of that type with the number 2 that is in one entry of the root. */
    static byte[] body(int type) {
        byte[][] bodies = {
            ImageKit.join(four(0), four(2), two(3), two(0), four(1)),
            ImageKit.join(four(0), four(-1), four(0), four(0)),
            ImageKit.join(four(1), four(3), CheckKit.bytes("abc")),
            ImageKit.join(four(1), four(7)),
            ImageKit.join(four(1), four(8)),
            four(1),
            four(1),
            ImageKit.join(four(2), four(3), four(0), four(1), two(0), two(0)),
            ImageKit.join(eight(0), eight(0), eight(0), four(1), four(-1), four(0)),
        };
        byte[] body = bodies[type < 10 ? type - 1 : type - 8];
        return type < 8 ? body : ImageKit.join(body, four(-1));
    }

    /** An inode of a type, with the number 2, as the one entry n of the root, which comes behind it. */
    static ImageKit oneOf(int type, byte[]... body) {
        ImageKit one = new ImageKit();
        return withRoot(one, one.addInode(type, 2, body), (type - 1) % 7 + 1);
    }

    /** The root behind the one other inode, which is its entry n. */
    static ImageKit withRoot(ImageKit one, int at, int kind) {
        int told = one.addListing(ImageKit.head(1, at, 2), ImageKit.entry(at, 0, kind, "n"));
        one.root = ImageKit.reference(one.addFolder(1, told, one.folders.size() - told, kind == 1 ? 3 : 2, 3));
        return one;
    }

    /** A file, not extended, as the one entry of the root; the data is what stands in the kit. */
    static ImageKit withFile(ImageKit one, long begin, int fragment, int offset, long size, int... blocks) {
        return withRoot(one, one.addFile(2, begin, fragment, offset, size, blocks), 2);
    }

    /** Empty directories, files or others, as entries of the root, under these names in this order. */
    static ImageKit withNames(int type, String... names) {
        ImageKit one = new ImageKit();
        byte[] told = ImageKit.head(names.length, 0, 2);
        for (int i = 0; i < names.length; i++) {
            int at = one.addInode(type, 2 + i, body(type));
            told = ImageKit.join(told, ImageKit.entry(at, i, (type - 1) % 7 + 1, names[i]));
        }
        int place = one.addListing(told);
        int links = type == 1 || type == 8 ? 2 + names.length : 2;
        one.root = ImageKit.reference(one.addFolder(1, place, told.length, links, names.length + 2));
        return one;
    }

    static byte[] piece(int n) {
        return ImageKit.join(two(32768 + n), new byte[n]);
    }

    static byte[] packedPiece(byte[] row) {
        byte[] packed = PackKit.pack(row);
        return ImageKit.join(two(packed.length), packed);
    }

    static byte[] packedPiece(int n) {
        return packedPiece(new byte[n]);
    }

    /** The root alone, behind it a directory row of these pieces, which no directory has a listing in. */
    static byte[] withFolderRow(byte[]... pieces) {
        ImageKit one = rootAlone();
        one.folderPieces = ImageKit.join(pieces);
        return one.image();
    }
}
