import java.util.Arrays;

/** Promise 18, the edges of faults 6, LISTINGS, and 7, TREE, each sentence by itself. */
public final class ListingEdgeTest {
    private static final int LEAST = Integer.MIN_VALUE, GREATEST = Integer.MAX_VALUE;
    private static final MountKit SAMPLE = new MountKit();

    public static void main(String[] args) {
        CheckKit.due("the sample", CheckKit.mount(SAMPLE.good), 0);
        sizeAbove3();
        starts();
        offsets();
        offsetsAtAPiecesEnd();
        withinTheRow();
        withinTheRowOfThisImage();
        withinTheLongestRow();
        threeBytesLess();
        endsBehindAnEntry();
        headersTell();
        headersTellLessOne();
        namesTellLessOne();
        headersStart();
        headersStartOfTheSecondPiece();
        nameLengths();
        nameBytes();
        nameDots();
        namesInOrder();
        namesInOrderAcrossHeaders();
        firstByteOfAnInode();
        numbers();
        numbersWithASign();
        kinds();
        indexPlaces();
        indexPlacesRise();
        indexStarts();
        indexNames();
        indexesOfAnEmptyDirectory();
        sameListing();
        rootIsAReference();
        rootsParent();
        rootInNoEntry();
        directoriesInOneEntry();
        directoriesParents();
        othersInOneAtLeast();
        links();
        linksOfAPlainFile();
        reached();
        deep();
        CheckKit.finish("ListingEdgeTest");
    }

    private static byte[] four(long n) {
        return MountKit.four(n);
    }

    private static byte[] two(long n) {
        return MountKit.two(n);
    }

    /** A root, extended, of these listing, start and offset; the inode that its entries lead to is the empty file 2 at 0. */
    private static ImageKit withListing(int links, byte[] row, long start, int offset, long size) {
        ImageKit one = new ImageKit();
        one.addLongFile(2, 0, -1, 0, 0, links);
        one.addListing(row);
        one.root = ImageKit.reference(one.addInode(8, 1, four(2), four(size + 3), four(start), four(3), two(0), two(offset), four(-1)));
        return one;
    }

    private static byte[] entry(String name) {
        return ImageKit.entry(0, 0, 2, name);
    }

    private static byte[] head(int entries) {
        return ImageKit.head(entries, 0, 2);
    }

    private static byte[] one(String name) {
        return ImageKit.join(head(1), entry(name));
    }

    private static void sizeAbove3() {
        CheckKit.sentence(18, "6 LISTINGS, of directories with a size above 3");
        for (long start : new long[] {0, 1, 8194, -1}) {
            for (int offset : new int[] {0, 1, 8191, 8192, 65535}) {
                ImageKit none = new ImageKit();
                none.root = ImageKit.reference(none.addInode(1, 1, four(start), four(2), two(3), two(offset), four(2)));
                MountKit.mounts("size 3, start " + start + ", offset " + offset, none, 0);
                none = new ImageKit();
                none.root = ImageKit.reference(none.addInode(1, 1, four(start), four(2), two(4), two(offset), four(2)));
                MountKit.mounts("size 4, start " + start + ", offset " + offset, none, 6);
            }
        }
    }

    private static void starts() {
        CheckKit.sentence(18, "the start is that of a piece of the directory row");
        byte[] first = one("f");
        for (long start : new long[] {0, 1, 2, 23, 65536, LEAST, GREATEST, -1}) {
            MountKit.mounts("start " + start + " of one piece", withListing(1, first, start, 0, 21), start == 0 ? 0 : 6);
        }
        byte[] row = ImageKit.join(first, new byte[8192 - 21], one("f"));
        for (long start : new long[] {0, 1, 8191, 8192, 8193, 8194, 8195, 8194 + 23, 16388, 8194 + 65536}) {
            MountKit.mounts("start " + start + " of two pieces", withListing(1, row, start, 0, 21), start == 0 || start == 8194 ? 0 : 6);
        }
        MountKit.mounts("no pieces", withListing(1, new byte[0], 0, 0, 21), 6);
    }

    private static void offsets() {
        CheckKit.sentence(18, "the offset below the bytes of that piece");
        byte[] row = ImageKit.join(new byte[50], one("f"));
        for (int offset : new int[] {0, 49, 50, 51, 70, 71, 72, 8192, 65535}) {
            MountKit.mounts("offset " + offset, withListing(1, row, 0, offset, 21), offset == 50 ? 0 : 6);
        }
        // What follows in the row's last bytes is too short for a listing; the offset alone would hold up to 70.
        MountKit.mounts("offset 70 for one byte", withListing(1, row, 0, 70, 1), 6);
        MountKit.mounts("offset 71 for no byte", withListing(0, row, 0, 71, 0), 7);
        // An offset that is too great leads nowhere, wherever in the row a listing is.
        for (int place = 0; place <= 3; place++) {
            byte[] early = ImageKit.join(new byte[place], one("f"));
            for (int offset : new int[] {place, 21 + place, 22 + place, 8192 + place, 65535}) {
                ImageKit kit = withListing(1, early, 0, offset, 21);
                MountKit.mounts("offset " + offset + ", the listing being at " + place, kit, offset == place ? 0 : 6);
            }
        }
    }

    private static void offsetsAtAPiecesEnd() {
        CheckKit.sentence(18, "the offset below the bytes of that piece");
        for (int place : new int[] {8190, 8191, 8192, 8193}) {
            byte[] row = ImageKit.join(new byte[place], one("f"));
            MountKit.mounts("offset " + place + " of the first piece", withListing(1, row, 0, place, 21), place < 8192 ? 0 : 6);
            if (place >= 8192) {
                MountKit.mounts("the same in the second piece", withListing(1, row, 8194, place - 8192, 21), 0);
            }
        }
    }

    private static void withinTheRow() {
        CheckKit.sentence(18, "the listing is within the row");
        byte[] row = one("ff");
        for (long size : new long[] {20, 21, 22, 23, 24, 65536, 4294967292L}) {
            MountKit.mounts("a listing of " + size, withListing(1, row, 0, 0, size), size == 22 ? 0 : 6);
        }
        byte[] longer = ImageKit.join(row, new byte[1]);
        MountKit.mounts("a byte of the row behind it", withListing(1, longer, 0, 0, 22), 0);
        MountKit.mounts("the same, but in the listing", withListing(1, longer, 0, 0, 23), 6);
        byte[] cut = Arrays.copyOf(row, 21);
        MountKit.mounts("a name whose last byte is behind the row", withListing(1, cut, 0, 0, 22), 6);
        MountKit.mounts("the same, and the listing ends before", withListing(1, cut, 0, 0, 21), 6);
    }

    /** What an image that was mounted before had there is not in the row. */
    private static void withinTheRowOfThisImage() {
        CheckKit.sentence(18, "the listing is within the row");
        byte[] row = ImageKit.join(new byte[50], one("ff"));
        FrozenVolume x = new FrozenVolume();
        for (int cut : new int[] {0, 1, 2, 3, 10, 22}) {
            CheckKit.setImage(x, withListing(1, row, 0, 50, 22).image());
            CheckKit.due("mount of the whole row", x.mount(), 0);
            CheckKit.setImage(x, withListing(1, Arrays.copyOf(row, row.length - cut), 0, 50, 22).image());
            CheckKit.due("mount of the row without " + cut + " bytes", x.mount(), cut == 0 ? 0 : 6);
        }
    }

    private static void withinTheLongestRow() {
        CheckKit.sentence(18, "the listing is within the row");
        for (int cut = 0; cut <= 22; cut++) {
            byte[] listing = Arrays.copyOf(one("ff"), 22 - cut);
            byte[] row = ImageKit.join(new byte[65536 - listing.length], listing);
            int at = Math.min(65535, 65536 - listing.length);
            ImageKit one = withListing(1, row, ImageKit.start(at), at % 8192, 22);
            MountKit.mounts("a listing that ends " + cut + " bytes behind a row of 65536", one, cut == 0 ? 0 : 6);
        }
    }

    private static void threeBytesLess() {
        CheckKit.sentence(18, "it has 3 bytes less than its size");
        for (int size = 21; size <= 27; size++) {
            for (int type : new int[] {1, 8}) {
                ImageKit one = new ImageKit();
                one.addFile(2, 0, -1, 0, 0);
                one.addListing(one("f"), new byte[10]);
                byte[] body = type == 1 ? ImageKit.join(four(0), four(2), two(size), two(0), four(3))
                        : ImageKit.join(four(2), four(size), four(0), four(3), two(0), two(0), four(-1));
                one.root = ImageKit.reference(one.addInode(type, 1, body));
                MountKit.mounts("a size of " + size + " for 21 bytes", one, size == 24 ? 0 : 6);
            }
        }
    }

    private static void endsBehindAnEntry() {
        CheckKit.sentence(18, "and ends behind an entry, the last one that its header tells");
        byte[] row = ImageKit.join(head(2), entry("a"), entry("b"), one("c"));
        for (int size = 0; size <= row.length; size++) {
            int entries = size == 30 ? 2 : size == 51 ? 3 : 0;
            int due = size == 0 ? 7 : entries == 0 ? 6 : 0;
            MountKit.mounts("a listing of " + size + " bytes", withListing(Math.max(1, entries), row, 0, 0, size), due);
        }
        for (int told : new int[] {1, 2, 3}) {
            byte[] both = ImageKit.join(head(told), entry("a"), entry("b"));
            MountKit.mounts("two entries, told to be " + told, withListing(2, both, 0, 0, both.length), told == 2 ? 0 : 6);
        }
        MountKit.mounts("a header alone", withListing(1, head(1), 0, 0, 12), 6);
        byte[] last = ImageKit.join(one("a"), head(1));
        MountKit.mounts("a header alone behind an entry", withListing(1, last, 0, 0, last.length), 6);
    }

    private static String[] names(int many) {
        String[] names = new String[many];
        for (int i = 0; i < many; i++) {
            names[i] = "n" + (1000 + i);
        }
        return names;
    }

    private static void headersTell() {
        CheckKit.sentence(18, "headers tell 256 entries at most");
        for (int many : new int[] {1, 2, 255, 256, 257}) {
            byte[] row = head(many);
            for (String name : names(many)) {
                row = ImageKit.join(row, entry(name));
            }
            MountKit.mounts(many + " entries of a header", withListing(many, row, 0, 0, row.length), many <= 256 ? 0 : 6);
        }
        for (long less1 : new long[] {-1, LEAST, GREATEST, 256, 512, 65536}) {
            byte[] row = ImageKit.patched(one("f"), 0, four(less1));
            MountKit.mounts("entries less 1: " + less1, withListing(1, row, 0, 0, row.length), 6);
        }
        byte[] both = new byte[0];
        for (int i = 0; i < 257; i++) {
            both = ImageKit.join(both, i == 0 ? head(256) : i == 256 ? head(1) : new byte[0], entry(names(257)[i]));
        }
        MountKit.mounts("257 entries in two headers", withListing(257, both, 0, 0, both.length), 0);
    }

    private static void headersTellLessOne() {
        CheckKit.sentence(18, "u4 the entries that follow, less 1 (0 .. 255)");
        for (int less1 : new int[] {0, 1, 2}) {
            for (int many = 1; many <= 3; many++) {
                byte[] row = four(less1);
                row = ImageKit.join(row, four(0), four(2));
                for (String name : names(many)) {
                    row = ImageKit.join(row, entry(name));
                }
                MountKit.mounts(many + " entries told by " + less1, withListing(many, row, 0, 0, row.length), many == less1 + 1 ? 0 : 6);
            }
        }
    }

    private static void namesTellLessOne() {
        CheckKit.sentence(18, "u2 the name's bytes less 1, the name.");
        for (int less1 : new int[] {0, 1, 2, 254, 255, 256}) {
            for (int n : new int[] {less1, less1 + 1, less1 + 2}) {
                byte[] row = ImageKit.join(head(1), two(0), two(0), two(2), two(less1), CheckKit.bytes("n".repeat(n)));
                MountKit.mounts("a name of " + n + " told by " + less1, withListing(1, row, 0, 0, row.length), n == less1 + 1 && n <= 256 ? 0 : 6);
            }
        }
    }

    private static void headersStart() {
        CheckKit.sentence(18, "and the start of a piece of the inode row");
        for (long start : new long[] {0, 1, 2, 20, 8194, 65536, LEAST, -1}) {
            byte[] row = ImageKit.patched(one("f"), 4, four(start));
            MountKit.mounts("a header's start " + start, withListing(1, row, 0, 0, row.length), start == 0 ? 0 : 6);
        }
    }

    /** A socket that begins at that place of the inode row, and is told by a header's start and a place. */
    private static void placed(String what, int fault, int place, long start, int told) {
        ImageKit one = new ImageKit();
        int n = place - 24;
        int link = one.addInode(3, 2, four(1), four(n), new byte[n]);
        one.addInode(7, 3, four(1));
        int listing = one.addListing(ImageKit.head(1, link, 2), ImageKit.entry(link, 0, 3, "a"),
                four(0), four(start), four(3), two(told), two(0), two(7), two(0), CheckKit.bytes("b"));
        one.root = ImageKit.reference(one.addFolder(1, listing, one.folders.size(), 2, 4));
        MountKit.mounts(what, one, fault);
    }

    private static void headersStartOfTheSecondPiece() {
        CheckKit.sentence(18, "each entry leads, in that piece, to the first byte of an inode");
        placed("the last place of the first piece", 0, 8191, 0, 8191);
        placed("the first place of the second piece", 0, 8192, 8194, 0);
        placed("the same, as place 8192 of the first", 6, 8192, 0, 8192);
        placed("the second place of the second piece", 0, 8193, 8194, 1);
        placed("the same, as place 8193 of the first", 6, 8193, 0, 8193);
        for (long start : new long[] {1, 8191, 8192, 8193, 8195, 16388}) {
            placed("start " + start, 6, 8192, start, 0);
        }
        placed("a place behind the row", 6, 8192, 8194, 52);
        placed("the last place that can be told", 6, 8192, 8194, 65535);
    }

    private static void nameLengths() {
        CheckKit.sentence(18, "names are as said of the tree");
        for (int n : new int[] {1, 2, 255, 256, 257, 512}) {
            byte[] row = one("n".repeat(n));
            MountKit.mounts("a name of " + n, withListing(1, row, 0, 0, row.length), n <= 256 ? 0 : 6);
        }
        for (int less1 : new int[] {256, 32768, 65535}) {
            byte[] row = ImageKit.patched(one("n"), 18, two(less1));
            MountKit.mounts("a name's bytes less 1: " + less1, withListing(1, row, 0, 0, row.length), 6);
        }
        byte[] longest = ImageKit.patched(ImageKit.join(one("n"), new byte[40000], new byte[25535]), 18, two(65535));
        MountKit.mounts("a name of 65536, less 21", withListing(1, Arrays.copyOf(longest, 65536), 0, 0, 65536), 6);
    }

    private static void nameBytes() {
        CheckKit.sentence(18, "names are as said of the tree");
        for (int b : new int[] {0, 1, 46, 47, 48, 127, 128, 255}) {
            for (String name : new String[] {"" + (char) b + "xy", "x" + (char) b + "y", "xy" + (char) b}) {
                byte[] row = one(name);
                MountKit.mounts("a byte " + b, withListing(1, row, 0, 0, row.length), b == 0 || b == 47 ? 6 : 0);
            }
        }
    }

    private static void nameDots() {
        CheckKit.sentence(18, "names are as said of the tree");
        for (String name : new String[] {".", "..", "...", ".-", "-.", "..-"}) {
            byte[] row = one(name);
            MountKit.mounts("the name " + name, withListing(1, row, 0, 0, row.length), name.equals(".") || name.equals("..") ? 6 : 0);
        }
    }

    private static void inOrder(String one, String two, int fault) {
        byte[] row = ImageKit.join(head(2), entry(one), entry(two));
        MountKit.mounts(one + " and " + two, withListing(2, row, 0, 0, row.length), fault);
    }

    private static void namesInOrder() {
        CheckKit.sentence(18, "and in order, none twice");
        inOrder("a", "b", 0);
        inOrder("b", "a", 6);
        inOrder("a", "a", 6);
        inOrder("a", "aa", 0);
        inOrder("aa", "a", 6);
        inOrder("aa", "b", 0);
        inOrder("b", "aa", 6);
        inOrder("a\u007f", "a\u0080", 0);
        inOrder("a\u0080", "a\u007f", 6);
        inOrder("\u0001", "\u00ff", 0);
        inOrder("\u00ff", "\u0001", 6);
        inOrder("n".repeat(255), "n".repeat(256), 0);
        inOrder("n".repeat(256), "n".repeat(255), 6);
        inOrder("n".repeat(256), "n".repeat(256), 6);
        inOrder("n".repeat(255) + "a", "n".repeat(255) + "b", 0);
        inOrder("n".repeat(255) + "b", "n".repeat(255) + "a", 6);
    }

    private static void namesInOrderAcrossHeaders() {
        CheckKit.sentence(18, "and in order, none twice");
        String[][] pairs = {{"a", "b"}, {"a", "a"}, {"b", "a"}, {"a", "aa"}, {"aa", "a"}};
        for (String[] pair : pairs) {
            byte[] row = ImageKit.join(one(pair[0]), one(pair[1]));
            MountKit.mounts(pair[0] + " and " + pair[1], withListing(2, row, 0, 0, row.length), pair[0].compareTo(pair[1]) < 0 ? 0 : 6);
        }
    }

    private static void firstByteOfAnInode() {
        CheckKit.sentence(18, "each entry leads, in that piece, to the first byte of an inode, that has its number and its kind");
        int at = SAMPLE.listing + 12;
        SAMPLE.folder("its first byte", 0, at, two(SAMPLE.d));
        SAMPLE.folder("a byte before", 6, at, two(SAMPLE.d - 1));
        SAMPLE.folder("a byte behind", 6, at, two(SAMPLE.d + 1));
        SAMPLE.folder("another inode", 6, at, two(SAMPLE.f));
        SAMPLE.folder("the row's end", 6, at, two(SAMPLE.kit.inodes.size()));
        SAMPLE.folder("the last place of a piece", 6, at, two(8191));
        SAMPLE.folder("one more than a piece has", 6, at, two(8192));
        SAMPLE.folder("the last that can be told", 6, at, two(65535));
        // The same with a file that has the number 1; the root has 2.
        for (int place : new int[] {0, 1, 31, 32, 63, 64, 8191, 8192, 65535}) {
            ImageKit one = new ImageKit();
            one.addFile(1, 0, -1, 0, 0);
            int told = one.addListing(ImageKit.head(1, 0, 1), two(place), two(0), two(2), two(0), CheckKit.bytes("f"));
            one.root = ImageKit.reference(one.addFolder(2, told, 21, 2, 3));
            MountKit.mounts("number 1 at place " + place, one, place == 0 ? 0 : 6);
        }
    }

    private static void numbers() {
        CheckKit.sentence(18, "that has its number");
        int header = SAMPLE.listing + 8;
        int more = SAMPLE.listing + 14;
        for (int n : new int[] {-3, -2, -1, 0, 2, 32767, -32768}) {
            SAMPLE.folder("more " + n, n == -2 ? 0 : 6, more, two(n));
        }
        for (long n : new long[] {3, 4, 5, 0, 4 + 65536, LEAST + 4, -1}) {
            SAMPLE.folder("a header's number " + n, n == 4 ? 0 : 6, header, four(n));
        }
    }

    /** The file 2 by a header's number and what its own is more. */
    private static void more(long number, int more, int fault) {
        byte[] row = ImageKit.join(four(0), four(0), four(number), two(0), two(more), two(2), two(0), CheckKit.bytes("f"));
        MountKit.mounts("a header's number " + number + " and " + more, withListing(1, row, 0, 0, row.length), fault);
    }

    private static void numbersWithASign() {
        CheckKit.sentence(18, "u2 (with a sign, of two's complement) what the inode's number is more than the header's");
        more(0, 2, 0);
        more(1, 1, 0);
        more(3, -1, 0);
        more(32769, -32767, 0);
        more(32770, -32768, 0);
        more(32771, -32768, 6);
        more(-32765, 32767, 6);
        more(-1, 3, 6);
        more(-2, 4, 6);
        more(65538, 0, 6);
    }

    private static void kinds() {
        CheckKit.sentence(18, "and its kind (extended or not)");
        for (int type = 1; type <= 14; type++) {
            int kind = (type - 1) % 7 + 1;
            for (int told : new int[] {0, kind - 1, kind, kind + 1, kind + 7, kind + 256, 65535}) {
                ImageKit one = new ImageKit();
                int at = one.addInode(type, 2, MountKit.body(type));
                int listing = one.addListing(ImageKit.head(1, at, 2), ImageKit.entry(at, 0, told, "n"));
                one.root = ImageKit.reference(one.addFolder(1, listing, 21, kind == 1 ? 3 : 2, 3));
                MountKit.mounts("type " + type + " told as " + told, one, told == kind ? 0 : 6);
            }
        }
    }

    /** Three headers of one entry each; the indexes are told. */
    private static ImageKit withIndexes(int many, byte[]... indexes) {
        ImageKit one = new ImageKit();
        one.addLongFile(2, 0, -1, 0, 0, 3);
        one.addListing(one("a"), one("bb"), one("c"));
        one.root = ImageKit.reference(one.addInode(8, 1, four(2), four(64 + 3), four(0), four(3), two(many), two(0), four(-1),
                ImageKit.join(indexes)));
        return one;
    }

    private static byte[] index(long place, long start, String name) {
        return ImageKit.join(four(place), four(start), four(name.length() - 1), CheckKit.bytes(name));
    }

    private static void indexPlaces() {
        CheckKit.sentence(18, "each is that of a header other than the first one");
        MountKit.mounts("no index", withIndexes(0), 0);
        MountKit.mounts("of the first header", withIndexes(1, index(0, 0, "a")), 6);
        MountKit.mounts("of the second header", withIndexes(1, index(21, 0, "bb")), 0);
        MountKit.mounts("of the third header", withIndexes(1, index(43, 0, "c")), 0);
        for (long place : new long[] {1, 12, 20, 22, 33, 42, 44, 64, 65, LEAST + 21, 21 + 65536, -1}) {
            MountKit.mounts("an index's place " + place, withIndexes(1, index(place, 0, "bb")), 6);
        }
    }

    private static void indexPlacesRise() {
        CheckKit.sentence(18, "Indexes (of all directories): their places rise");
        MountKit.mounts("both, rising", withIndexes(2, index(21, 0, "bb"), index(43, 0, "c")), 0);
        MountKit.mounts("both, falling", withIndexes(2, index(43, 0, "c"), index(21, 0, "bb")), 6);
        MountKit.mounts("the second twice", withIndexes(2, index(21, 0, "bb"), index(21, 0, "bb")), 6);
        MountKit.mounts("the third twice", withIndexes(2, index(43, 0, "c"), index(43, 0, "c")), 6);
        MountKit.mounts("all three", withIndexes(3, index(0, 0, "a"), index(21, 0, "bb"), index(43, 0, "c")), 6);
    }

    /** Headers whose second one begins at a place of the row: its index tells that piece's start. */
    private static void indexStart(int place, long start, int fault) {
        ImageKit one = new ImageKit();
        one.addLongFile(2, 0, -1, 0, 0, 2);
        int listing = place - 21;
        one.addListing(new byte[listing], one("a"), one("b"));
        one.root = ImageKit.reference(one.addInode(8, 1, four(2), four(42 + 3), four(ImageKit.start(listing)), four(3), two(1),
                two(listing % 8192), four(-1), index(21, start, "b")));
        MountKit.mounts("a header at " + place + " with an index's start " + start, one, fault);
    }

    private static void indexStarts() {
        CheckKit.sentence(18, "the start is that of the piece with the header's first byte");
        indexStart(8190, 0, 0);
        indexStart(8190, 8194, 6);
        indexStart(8191, 0, 0);
        indexStart(8191, 8194, 6);
        indexStart(8192, 0, 6);
        indexStart(8192, 8194, 0);
        indexStart(8192, 8193, 6);
        indexStart(8192, 8195, 6);
        indexStart(8193, 8194, 0);
        indexStart(8193, 0, 6);
        indexStart(21, 0, 0);
        indexStart(21, 1, 6);
        indexStart(21, -1, 6);
    }

    private static void indexNames() {
        CheckKit.sentence(18, "the name is that of its first entry");
        for (String name : new String[] {"b", "bb", "bbb", "bc", "ba", "cb", "a", "c"}) {
            MountKit.mounts("the name " + name, withIndexes(1, index(21, 0, name)), name.equals("bb") ? 0 : 6);
        }
    }

    private static void indexesOfAnEmptyDirectory() {
        CheckKit.sentence(18, "Indexes (of all directories)");
        for (int many = 0; many <= 1; many++) {
            ImageKit empty = new ImageKit();
            empty.root = ImageKit.reference(empty.addInode(8, 1, four(2), four(3), four(-1), four(2), two(many), two(65535), four(-1),
                    many == 0 ? new byte[0] : index(0, 0, "a")));
            MountKit.mounts("an empty directory with indexes: " + many, empty, many == 0 ? 0 : 6);
        }
    }

    private static void sameListing() {
        CheckKit.sentence(18, "A directory's LISTING begins in the directory row, in the piece with its start, at its offset");
        ImageKit shared = new ImageKit();
        int file = shared.addLongFile(2, 0, -1, 0, 0, 2);
        int told = shared.addListing(ImageKit.head(1, file, 2), ImageKit.entry(file, 0, 2, "f"));
        int a = shared.addFolder(3, told, 21, 2, 1);
        int b = shared.addFolder(4, told, 21, 2, 1);
        int top = shared.addListing(ImageKit.head(2, a, 3), ImageKit.entry(a, 0, 1, "a"), ImageKit.entry(b, 1, 1, "b"));
        shared.root = ImageKit.reference(shared.addFolder(1, top, shared.folders.size() - top, 4, 5));
        MountKit.mounts("two directories with one listing", shared, 0);
    }

    private static void rootIsAReference() {
        CheckKit.sentence(18, "7 TREE: ROOT is a reference to the inode of a directory");
        long root = SAMPLE.kit.root;
        SAMPLE.patched("ROOT", 0, 32, MountKit.eight(root));
        for (long other : new long[] {root - 1, root + 1, root + 65536, root + (1L << 32), root + (1L << 48), root + (1L << 63), -1,
            ImageKit.reference(SAMPLE.d), ImageKit.reference(SAMPLE.x), ImageKit.reference(SAMPLE.f), ImageKit.reference(SAMPLE.l),
            ImageKit.reference(SAMPLE.p), ImageKit.reference(SAMPLE.q), ImageKit.reference(SAMPLE.s), SAMPLE.kit.inodes.size()}) {
            SAMPLE.patched("ROOT " + other, 7, 32, MountKit.eight(other));
        }
    }

    private static void rootsParent() {
        CheckKit.sentence(18, "whose parent's number is INODES + 1");
        for (long parent : new long[] {0, 1, 7, 8, 9, 10, -1, LEAST + 9, 9 + 65536}) {
            SAMPLE.inode("the root's parent " + parent, parent == 9 ? 0 : 7, SAMPLE.r, 28, four(parent));
        }
    }

    private static void rootInNoEntry() {
        CheckKit.sentence(18, "and which is in no entry");
        ImageKit up = new ImageKit();
        int told = up.addListing(ImageKit.head(1, 0, 1), ImageKit.entry(0, 0, 1, "a"));
        up.root = ImageKit.reference(up.addFolder(1, told, 21, 3, 2));
        MountKit.mounts("a root in itself", up, 7);
        ImageKit below = new ImageKit();
        told = below.addListing(ImageKit.head(1, 32, 1), ImageKit.entry(32, 0, 1, "a"));
        int top = below.addListing(ImageKit.head(1, 0, 2), ImageKit.entry(0, 0, 1, "b"));
        below.addFolder(2, told, 21, 3, 1);
        below.root = ImageKit.reference(below.addFolder(1, top, 21, 3, 3));
        MountKit.mounts("a root in a directory of its own", below, 7);
    }

    private static void directoriesInOneEntry() {
        CheckKit.sentence(18, "each other directory is in just one entry");
        ImageKit none = new ImageKit();
        none.addFolder(2, 0, 0, 2, 1);
        none.root = ImageKit.reference(none.addFolder(1, 0, 0, 2, 3));
        MountKit.mounts("in none", none, 7);
        MountKit.mounts("in one", MountKit.withNames(1, "a"), 0);
        ImageKit twice = new ImageKit();
        int inner = twice.addFolder(2, 0, 0, 2, 1);
        int told = twice.addListing(ImageKit.head(2, inner, 2), ImageKit.entry(inner, 0, 1, "a"), ImageKit.entry(inner, 0, 1, "b"));
        twice.root = ImageKit.reference(twice.addFolder(1, told, twice.folders.size(), 4, 3));
        MountKit.mounts("in two", twice, 7);
    }

    private static void directoriesParents() {
        CheckKit.sentence(18, "of the directory with its parent's number");
        for (long parent : new long[] {0, 1, 2, 3, 8, 9, -1, LEAST + 1, 65537}) {
            SAMPLE.inode("a directory's parent " + parent, parent == 1 ? 0 : 7, SAMPLE.d, 28, four(parent));
        }
    }

    private static void othersInOneAtLeast() {
        CheckKit.sentence(18, "each other inode is in one at least");
        for (int type = 2; type <= 14; type++) {
            if (type != 8) {
                for (int times = 0; times <= 2; times++) {
                    ImageKit one = new ImageKit();
                    byte[] body = MountKit.body(type);
                    int at = one.addInode(type, 2, type == 2 ? body : ImageKit.patched(body, type == 9 ? 24 : 0, four(times)));
                    int kind = (type - 1) % 7 + 1;
                    byte[] told = times == 0 ? new byte[0] : ImageKit.head(times, at, 2);
                    for (int i = 0; i < times; i++) {
                        told = ImageKit.join(told, ImageKit.entry(at, 0, kind, "" + i));
                    }
                    one.addListing(told);
                    one.root = ImageKit.reference(one.addFolder(1, 0, told.length, 2, 3));
                    MountKit.mounts("type " + type + " in " + times + " entries", one, times == 1 || times == 2 && type != 2 ? 0 : 7);
                }
            }
        }
    }

    private static void links() {
        CheckKit.sentence(18, "links are as told in freezing");
        int[][] due = {{SAMPLE.r, 16, 3}, {SAMPLE.d, 20, 2}, {SAMPLE.f, 40, 2}, {SAMPLE.l, 16, 1}, {SAMPLE.p, 16, 1}, {SAMPLE.q, 16, 1}, {SAMPLE.s, 16, 1}};
        for (int[] one : due) {
            for (long links : new long[] {0, one[2] - 1, one[2], one[2] + 1, -1, LEAST + one[2], 65536 + one[2]}) {
                SAMPLE.inode("links " + links, links == one[2] ? 0 : 7, one[0], one[1], four(links));
            }
        }
        for (int type : new int[] {4, 5, 6, 7, 3, 10, 11, 12, 13, 14}) {
            for (int links = 0; links <= 2; links++) {
                byte[] body = ImageKit.patched(MountKit.body(type), 0, four(links));
                MountKit.mounts("type " + type + ", links " + links, MountKit.oneOf(type, body), links == 1 ? 0 : 7);
            }
        }
        for (int type : new int[] {1, 8}) {
            for (int links = 1; links <= 3; links++) {
                byte[] body = ImageKit.patched(MountKit.body(type), type == 1 ? 4 : 0, four(links));
                MountKit.mounts("type " + type + ", links " + links, MountKit.oneOf(type, body), links == 2 ? 0 : 7);
            }
        }
    }

    private static void linksOfAPlainFile() {
        CheckKit.sentence(18, "(1 for a file that is not extended)");
        for (int times = 1; times <= 2; times++) {
            ImageKit one = new ImageKit();
            int at = one.addFile(2, 0, -1, 0, 0);
            byte[] told = ImageKit.head(times, at, 2);
            for (int i = 0; i < times; i++) {
                told = ImageKit.join(told, ImageKit.entry(at, 0, 2, "" + i));
            }
            one.addListing(told);
            one.root = ImageKit.reference(one.addFolder(1, 0, told.length, 2, 3));
            MountKit.mounts("a plain file in " + times, one, times == 1 ? 0 : 7);
        }
    }

    private static void reached() {
        CheckKit.sentence(18, "from the root, by entries, all directories are reached");
        ImageKit ring = new ImageKit();
        int to2 = ring.addListing(ImageKit.head(1, 0, 2), ImageKit.entry(0, 0, 1, "a"));
        int to3 = ring.addListing(ImageKit.head(1, 32, 3), ImageKit.entry(32, 0, 1, "a"));
        ring.addFolder(2, to3, 21, 3, 3);
        ring.addFolder(3, to2, 21, 3, 2);
        ring.root = ImageKit.reference(ring.addFolder(1, 0, 0, 2, 4));
        MountKit.mounts("two directories in a ring", ring, 7);
        ImageKit self = new ImageKit();
        int to = self.addListing(ImageKit.head(1, 0, 2), ImageKit.entry(0, 0, 1, "a"));
        self.addFolder(2, to, 21, 3, 2);
        self.root = ImageKit.reference(self.addFolder(1, 0, 0, 2, 3));
        MountKit.mounts("a directory in itself", self, 7);
    }

    private static void deep() {
        CheckKit.sentence(18, "at most 100 deep");
        for (int depth : new int[] {0, 1, 99, 100, 101, 102, 200}) {
            ImageKit deep = new ImageKit();
            for (int i = depth; i >= 0; i--) {
                int listing = 0;
                int size = 0;
                if (i < depth) {
                    int below = 32 * (depth - i - 1);
                    listing = deep.addListing(ImageKit.head(1, below, i + 2), ImageKit.entry(below, 0, 1, "d"));
                    size = 21;
                }
                deep.root = ImageKit.reference(deep.addFolder(i + 1, listing, size, i < depth ? 3 : 2, i == 0 ? depth + 2 : i));
            }
            MountKit.mounts("directories " + depth + " deep", deep, depth <= 100 ? 0 : 7);
        }
    }
}
