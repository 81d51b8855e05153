/**
 * A tree of directories, files, links and devices that is frozen into one image for reading only,
 * and the mounting of whatever bytes stand there as an image.
 */
public final class FrozenVolume {
    public static final int BAD = -1, NONE = -2, THERE = -3, NOT_FOLDER = -4, NOT_EMPTY = -5, FULL = -6;

    private static final int FOLDER = 1, FILE = 2, LINK = 3, BLOCK_DEVICE = 4, CHARACTER_DEVICE = 5, KINDS = 7;
    private static final int FEED = 20, TAPE = 16384, READ = 16384, IMAGE = 131072;
    private static final int NODES = 2000, ENTRIES = 2000, FILE_BYTES = 65536, TEXT_BYTES = 32768;
    private static final int NAME = 256, TARGET = 4096, DEEP = 100;
    private static final int SUPER = 96, MAGIC = 1936814952, ONES = -1;
    private static final int ROW = 65536, PIECE = 8192, PIECE_AS_IS = 32768;
    private static final int BLOCK = 65536, BLOCK_AS_IS = 16777216;
    private static final int TABLE = 4096, DATA = 4194304;
    private static final int PLAIN_ROWS = 1, PLAIN_DATA = 2, NO_FRAGMENTS = 4, EXPORT = 8;
    private static final int SLASH = 47, DOT = 46;
    private static final int[] TELLERS = {16, 17, 18, 0, 8, 7, 9, 6, 10, 5, 11, 4, 12, 3, 13, 2, 14, 1, 15};

    private final Row tape = new Row(TAPE);
    private final Row out = new Row(READ);
    private final Tree tree = new Tree();
    private final Freezer freezer = new Freezer();
    private final Volume volume = new Volume();
    private boolean fed;
    private boolean mounted;
    private int stray = NONE;

    public FrozenVolume() {
    }

    public int feed(int a, int b, int c, int d, int e) {
        if (tape.size > TAPE - FEED) {
            return FULL;
        }
        tape.putHighestFirst(a);
        tape.putHighestFirst(b);
        tape.putHighestFirst(c);
        tape.putHighestFirst(d);
        tape.putHighestFirst(e);
        fed = true;
        return tape.size;
    }

    public int end(int n) {
        if (!fed || n < 0 || n > FEED) {
            return BAD;
        }
        tape.size -= FEED - n;
        fed = false;
        return tape.size;
    }

    public int out() {
        return out.size;
    }

    public long outWord(int i) {
        return out.word(i);
    }

    public int make(int directory, int kind, int number) {
        int answer = tree.addNode(directory, kind, number, tape);
        useTape();
        return answer;
    }

    public int tie(int directory, int node) {
        int answer = tree.addEntry(directory, node, tape);
        useTape();
        return answer;
    }

    public int drop(int directory) {
        int answer = tree.removeEntry(directory, tape);
        useTape();
        return answer;
    }

    public int write(int node) {
        int answer = tree.append(node, tape);
        useTape();
        return answer;
    }

    public int fill(int node, int b, int n) {
        return tree.appendSame(node, b, n);
    }

    public int own(int node, int mode, int owner, int group, int time) {
        Node one = tree.node(node);
        if (one == null || mode < 0 || mode > 4095) {
            return BAD;
        }
        one.mode = mode;
        one.owner = owner;
        one.group = group;
        one.time = time;
        return 0;
    }

    public int freeze(int log, int options, int time) {
        if (log < 12 || log > 16 || options < 0 || options > 15) {
            return BAD;
        }
        freezer.begin(tree, log, options);
        freezer.putData(tree);
        freezer.putRows(tree);
        freezer.putTables(log, time);
        if (freezer.ranOver()) {
            return FULL;
        }
        volume.image.clear();
        volume.image.putAll(freezer.next.bytes, 0, freezer.next.size);
        mounted = false;
        // Looked at here, since the tree and the image may be others by the time that it is asked for.
        stray = volume.fault() == 0 ? countStray() : freezer.count;
        return volume.image.size;
    }

    public int astray() {
        return stray;
    }

    public int image() {
        return volume.image.size;
    }

    public long imageWord(int i) {
        return volume.image.word(i);
    }

    public int patch(int i, int b) {
        if (i < 0 || i >= volume.image.size) {
            return BAD;
        }
        int was = volume.image.bytes[i] & 255;
        volume.image.bytes[i] = (byte) b;
        mounted = false;
        return was;
    }

    public int keep(int n) {
        int answer = keepAndAppend(n);
        useTape();
        return answer;
    }

    public int mount() {
        int fault = volume.fault();
        mounted = fault == 0;
        return fault;
    }

    public int find(int inode) {
        int answer = has(inode) ? volume.follow(inode, tape) : BAD;
        useTape();
        return answer;
    }

    public long about(int inode, int what) {
        return has(inode) ? volume.tell(inode, what) : BAD;
    }

    public int entry(int inode, int i) {
        return has(inode) ? volume.copyEntry(inode, i, out) : BAD;
    }

    public int read(int inode, long from, int n) {
        if (!has(inode) || volume.inodes.kindOf(inode) != FILE || from < 0 || n < 0 || n > READ) {
            return BAD;
        }
        volume.copyBytes(inode, from, n, out);
        return out.size;
    }

    public int target(int inode) {
        if (!has(inode) || volume.inodes.kindOf(inode) != LINK) {
            return BAD;
        }
        volume.inodes.copyTarget(inode, out);
        return out.size;
    }

    public int place(int inode) {
        if (!has(inode) || volume.inodes.kindOf(inode) != FILE) {
            return BAD;
        }
        return volume.placeOfData(inode);
    }

    private void useTape() {
        tape.clear();
        fed = false;
    }

    private int keepAndAppend(int n) {
        if (n < 0 || n > volume.image.size) {
            return BAD;
        }
        if (tape.size > IMAGE - n) {
            return FULL;
        }
        volume.image.size = n;
        volume.image.putAll(tape.bytes, 0, tape.size);
        mounted = false;
        return volume.image.size;
    }

    private boolean has(int inode) {
        return mounted && inode >= 1 && inode <= volume.inodes.count;
    }

    private int countStray() {
        Row told = freezer.next;
        int strays = 0;
        for (int number = 1; number <= freezer.count; number++) {
            Node node = freezer.nodes[number];
            boolean differs = differs(node) || node.kind == FOLDER && entriesDiffer(node);
            if (node.kind == LINK) {
                volume.inodes.copyTarget(number, told);
                differs |= order(told.bytes, 0, told.size, node.target.bytes, 0, node.target.size) != 0;
            } else if (node.kind == FILE) {
                volume.copyBytes(number, 0, node.size, told);
                differs |= order(told.bytes, 0, told.size, tree.files.bytes, node.at, node.size) != 0
                        || volume.tell(number, 5) != node.size;
            }
            strays += differs ? 1 : 0;
        }
        return strays;
    }

    private boolean differs(Node node) {
        int links = node.kind == FOLDER ? tree.foldersIn(node) + 2 : node.links;
        return volume.tell(node.inode, 0) != node.kind
                || volume.tell(node.inode, 1) != node.mode
                || (int) volume.tell(node.inode, 2) != node.owner
                || (int) volume.tell(node.inode, 3) != node.group
                || (int) volume.tell(node.inode, 4) != node.time
                || volume.tell(node.inode, 6) != links
                || (int) volume.tell(node.inode, 7) != node.device;
    }

    private boolean entriesDiffer(Node folder) {
        Listings listings = volume.listings;
        boolean same = listings.open(folder.inode);
        int first = tree.first(folder);
        for (int i = first; i < first + folder.entries; i++) {
            Row name = tree.names[i];
            same = same && listings.next() && listings.child() == tree.children[i].inode
                    && listings.isNamed(name.bytes, 0, name.size);
        }
        return !same || listings.next();
    }

    /** Below, at or above 0, as the first bytes come before, with or behind the second ones. */
    private static int order(byte[] a, int aAt, int aSize, byte[] b, int bAt, int bSize) {
        int both = Math.min(aSize, bSize);
        for (int i = 0; i < both; i++) {
            int more = (a[aAt + i] & 255) - (b[bAt + i] & 255);
            if (more != 0) {
                return more;
            }
        }
        return aSize - bSize;
    }

    private static boolean isName(byte[] bytes, int at, int n) {
        if (n < 1 || n > NAME || isDots(bytes, at, n)) {
            return false;
        }
        for (int i = 0; i < n; i++) {
            if (bytes[at + i] == 0 || bytes[at + i] == SLASH) {
                return false;
            }
        }
        return true;
    }

    private static boolean isDots(byte[] bytes, int at, int n) {
        return n == 1 && bytes[at] == DOT || isParent(bytes, at, n);
    }

    private static boolean isParent(byte[] bytes, int at, int n) {
        return n == 2 && bytes[at] == DOT && bytes[at + 1] == DOT;
    }

    private static long unsigned(int n) {
        return n & 4294967295L;
    }

    /** Bytes up to a bound. What would run over is left out and remembered, so that one look at the end is enough. */
    private static final class Row {
        final byte[] bytes;
        int size;
        boolean over;

        Row(int most) {
            bytes = new byte[most];
        }

        void clear() {
            size = 0;
            over = false;
        }

        void put(int b) {
            if (size >= bytes.length) {
                over = true;
                return;
            }
            bytes[size] = (byte) b;
            size++;
        }

        void putTwo(int n) {
            put(n);
            put(n >> 8);
        }

        void putFour(int n) {
            put(n);
            put(n >> 8);
            put(n >> 16);
            put(n >> 24);
        }

        void putEight(long n) {
            for (int i = 0; i < 8; i++) {
                put((int) (n >> 8 * i));
            }
        }

        void putHighestFirst(int n) {
            put(n >> 24);
            put(n >> 16);
            put(n >> 8);
            put(n);
        }

        void putAll(byte[] from, int at, int n) {
            if (at < 0 || n < 0 || n > from.length - at || n > bytes.length - size) {
                over = true;
                return;
            }
            System.arraycopy(from, at, bytes, size, n);
            size += n;
        }

        void putZeros(int n) {
            for (int i = 0; i < n; i++) {
                put(0);
            }
        }

        int two(int at) {
            if (at < 0 || at > size - 2) {
                return 0;
            }
            return bytes[at] & 255 | (bytes[at + 1] & 255) << 8;
        }

        int four(int at) {
            if (at < 0 || at > size - 4) {
                return 0;
            }
            return bytes[at] & 255 | (bytes[at + 1] & 255) << 8 | (bytes[at + 2] & 255) << 16 | bytes[at + 3] << 24;
        }

        long eight(int at) {
            long eight = 0;
            for (int k = 7; k >= 0 && at >= 0 && at <= size - 8; k--) {
                eight = eight << 8 | bytes[at + k] & 255;
            }
            return eight;
        }

        /** Eight bytes from 8 i on, with 0 for those behind the last one. */
        long word(int i) {
            long word = 0;
            for (int k = 0; k < 8; k++) {
                if (i >= 0 && i <= size / 8 && 8 * i + k < size) {
                    word |= (bytes[8 * i + k] & 255L) << 8 * k;
                }
            }
            return word;
        }

        int indexOf(int b) {
            for (int i = 0; i < size; i++) {
                if (bytes[i] == b) {
                    return i;
                }
            }
            return -1;
        }
    }

    /** A row that is cut in pieces, each of which begins, in the image, at a start of its own. */
    private static final class PieceRow {
        final Row row;
        final int[] starts = new int[ROW / PIECE + 1];
        int pieces;

        PieceRow(int most) {
            row = new Row(most);
        }

        void clear() {
            row.clear();
            pieces = 0;
            starts[0] = 0;
        }

        /** Puts pieces while so many bytes are left: PIECE as they get full, 1 at the row's end. */
        void close(Packer packer, boolean pack, Row to, int least) {
            for (int k = pieces; k < starts.length - 1; k++) {
                int at = k * PIECE;
                int n = Math.min(PIECE, row.size - at);
                if (n < least) {
                    return;
                }
                int packed = pack ? packer.pack(row.bytes, at, n) : n;
                if (packed < n) {
                    to.putTwo(packed);
                    to.putAll(packer.packed.bytes, 0, packed);
                } else {
                    to.putTwo(n + PIECE_AS_IS);
                    to.putAll(row.bytes, at, n);
                }
                pieces = k + 1;
                starts[pieces] = starts[k] + 2 + Math.min(packed, n);
            }
        }

        /** Reads the pieces that lie between two places: whether each is one, and all but the last one full. */
        boolean load(Row image, int from, int to, Unpacker unpacker) {
            clear();
            int at = from;
            for (int k = 0; k < starts.length && at < to; k++) {
                if (row.size != k * PIECE || row.size > row.bytes.length - PIECE) {
                    return false;
                }
                int head = image.two(at);
                int n = head & PIECE_AS_IS - 1;
                int made = n;
                if (head < PIECE_AS_IS) {
                    made = unpacker.unpack(image.bytes, at + 2, n, row.bytes, row.size, PIECE);
                } else {
                    System.arraycopy(image.bytes, at + 2, row.bytes, row.size, n);
                }
                if (made < 1) {
                    return false;
                }
                row.size += made;
                pieces = k + 1;
                starts[pieces] = starts[k] + 2 + n;
                at += 2 + n;
            }
            return at == to;
        }

        long reference(int at) {
            return (long) starts[at / PIECE] << 16 | at % PIECE;
        }

        int startAt(int at) {
            return starts[at / PIECE];
        }

        int pieceWith(long start) {
            for (int k = 0; k < pieces; k++) {
                if (starts[k] == start) {
                    return k;
                }
            }
            return -1;
        }

        int bytesIn(int piece) {
            return Math.min(PIECE, row.size - piece * PIECE);
        }

        /** Where in the row a place of a piece is, or -1. */
        int flat(int piece, int place) {
            return piece < 0 || place >= bytesIn(piece) ? -1 : piece * PIECE + place;
        }
    }

    /** A node of the tree, and what freezing settles about it. */
    private static final class Node {
        final int id;
        final int kind;
        final int device;
        final Node home;
        final int depth;
        int mode;
        int owner;
        int group;
        int time;
        int links;
        int entries;
        int at;
        int size;
        Row target;
        int inode;
        long reference;
        int begin;
        int firstBlock;
        int fragment;
        int offset;

        Node(int id, int kind, int device, Node home) {
            this.id = id;
            this.kind = kind;
            this.device = kind == BLOCK_DEVICE || kind == CHARACTER_DEVICE ? device : 0;
            this.home = home;
            this.depth = home == null ? 0 : home.depth + 1;
            this.mode = kind == FOLDER ? 493 : 420;
        }
    }

    /** The nodes; the entries of all directories in one order, by directory and name; the bytes of all files. */
    private static final class Tree {
        final Row files = new Row(FILE_BYTES);
        final Node[] nodes = new Node[NODES];
        int made;
        final Node[] folders = new Node[ENTRIES];
        final Node[] children = new Node[ENTRIES];
        final Row[] names = new Row[ENTRIES];
        private final Row noName = new Row(0);
        private int entries;
        private int nameBytes;
        private int targetBytes;

        Tree() {
            nodes[0] = new Node(0, FOLDER, 0, null);
            made = 1;
        }

        Node node(int id) {
            return id < 0 || id >= made ? null : nodes[id];
        }

        int first(Node folder) {
            return seek(folder, noName, 0);
        }

        int foldersIn(Node folder) {
            int first = first(folder);
            int many = 0;
            for (int i = first; i < first + folder.entries; i++) {
                if (children[i].kind == FOLDER) {
                    many++;
                }
            }
            return many;
        }

        int addNode(int directory, int kind, int device, Row tape) {
            Node folder = node(directory);
            int n = kind == LINK ? tape.indexOf(0) : tape.size;
            int rest = kind == LINK ? tape.size - n - 1 : 0;
            if (folder == null || kind < 1 || kind > KINDS || !isName(tape.bytes, 0, n)) {
                return BAD;
            }
            if (kind == LINK && (rest < 1 || rest > TARGET)) {
                return BAD;
            }
            if (folder.kind != FOLDER) {
                return NOT_FOLDER;
            }
            int at = seek(folder, tape, n);
            if (isAt(at, folder, tape, n)) {
                return THERE;
            }
            if (made >= NODES || !hasRoom(n) || rest > TEXT_BYTES - targetBytes
                    || kind == FOLDER && folder.depth >= DEEP) {
                return FULL;
            }
            Node child = new Node(made, kind, device, folder);
            if (kind == LINK) {
                child.target = new Row(rest);
                child.target.putAll(tape.bytes, n + 1, rest);
                targetBytes += rest;
            }
            nodes[made] = child;
            made++;
            insert(at, folder, child, tape, n);
            return child.id;
        }

        int addEntry(int directory, int id, Row tape) {
            Node folder = node(directory);
            Node child = node(id);
            if (folder == null || child == null || child.kind == FOLDER || !isName(tape.bytes, 0, tape.size)) {
                return BAD;
            }
            if (folder.kind != FOLDER) {
                return NOT_FOLDER;
            }
            int at = seek(folder, tape, tape.size);
            if (isAt(at, folder, tape, tape.size)) {
                return THERE;
            }
            if (!hasRoom(tape.size)) {
                return FULL;
            }
            insert(at, folder, child, tape, tape.size);
            return child.links;
        }

        int removeEntry(int directory, Row tape) {
            Node folder = node(directory);
            if (folder == null || !isName(tape.bytes, 0, tape.size)) {
                return BAD;
            }
            if (folder.kind != FOLDER) {
                return NOT_FOLDER;
            }
            int at = seek(folder, tape, tape.size);
            if (!isAt(at, folder, tape, tape.size)) {
                return NONE;
            }
            Node child = children[at];
            if (child.entries > 0) {
                return NOT_EMPTY;
            }
            remove(at);
            if (child.links == 0) {
                forget(child);
            }
            return child.id;
        }

        int append(int id, Row tape) {
            Node file = node(id);
            if (file == null || file.kind != FILE) {
                return BAD;
            }
            if (tape.size > FILE_BYTES - files.size) {
                return FULL;
            }
            System.arraycopy(tape.bytes, 0, files.bytes, grow(file, tape.size), tape.size);
            return file.size;
        }

        int appendSame(int id, int b, int n) {
            Node file = node(id);
            if (file == null || file.kind != FILE || b < 0 || b > 255 || n < 1 || n > 16384) {
                return BAD;
            }
            if (n > FILE_BYTES - files.size) {
                return FULL;
            }
            int from = grow(file, n);
            for (int i = from; i < from + n; i++) {
                files.bytes[i] = (byte) b;
            }
            return file.size;
        }

        /** The first entry that is not before the one with this name in this directory, there or not. */
        private int seek(Node folder, Row text, int n) {
            int low = 0;
            int high = entries;
            for (int k = 0; k < 32 && low < high; k++) {
                int middle = (low + high) / 2;
                int more = folders[middle].id - folder.id;
                if (more == 0) {
                    more = order(names[middle].bytes, 0, names[middle].size, text.bytes, 0, n);
                }
                if (more < 0) {
                    low = middle + 1;
                } else {
                    high = middle;
                }
            }
            return low;
        }

        private boolean isAt(int at, Node folder, Row text, int n) {
            return at < entries && folders[at] == folder
                    && order(names[at].bytes, 0, names[at].size, text.bytes, 0, n) == 0;
        }

        private boolean hasRoom(int name) {
            return entries < ENTRIES && name <= TEXT_BYTES - nameBytes;
        }

        private void insert(int at, Node folder, Node child, Row text, int n) {
            Row name = new Row(n);
            name.putAll(text.bytes, 0, n);
            System.arraycopy(folders, at, folders, at + 1, entries - at);
            System.arraycopy(children, at, children, at + 1, entries - at);
            System.arraycopy(names, at, names, at + 1, entries - at);
            folders[at] = folder;
            children[at] = child;
            names[at] = name;
            entries++;
            nameBytes += n;
            folder.entries++;
            child.links++;
        }

        private void remove(int at) {
            nameBytes -= names[at].size;
            folders[at].entries--;
            children[at].links--;
            entries--;
            System.arraycopy(folders, at + 1, folders, at, entries - at);
            System.arraycopy(children, at + 1, children, at, entries - at);
            System.arraycopy(names, at + 1, names, at, entries - at);
        }

        private void forget(Node gone) {
            nodes[gone.id] = null;
            if (gone.target != null) {
                targetBytes -= gone.target.size;
            }
            int behind = gone.at + gone.size;
            System.arraycopy(files.bytes, behind, files.bytes, gone.at, files.size - behind);
            files.size -= gone.size;
            shift(gone, behind, -gone.size);
        }

        /** Makes room behind a file's bytes, and answers where that is. */
        private int grow(Node file, int n) {
            int behind = file.at + file.size;
            System.arraycopy(files.bytes, behind, files.bytes, behind + n, files.size - behind);
            files.size += n;
            file.size += n;
            shift(file, behind, n);
            return behind;
        }

        private void shift(Node but, int from, int by) {
            for (int i = 0; i < made; i++) {
                Node node = nodes[i];
                if (node != null && node != but && node.kind == FILE && node.at >= from) {
                    node.at += by;
                }
            }
        }
    }

    /** Codes for symbols: their lengths, and from these the codes themselves, for writing or for reading. */
    private static final class Code {
        final int[] counts;
        final int[] lengths;
        final int[] codes;
        final int[] ranked;
        final int[] perLength = new int[16];
        private final int[] firsts = new int[17];

        Code(int symbols) {
            counts = new int[symbols];
            lengths = new int[symbols];
            codes = new int[symbols];
            ranked = new int[symbols];
        }

        void clearCounts() {
            for (int s = 0; s < counts.length; s++) {
                counts[s] = 0;
            }
        }

        void fixSymbols() {
            for (int s = 0; s < lengths.length; s++) {
                lengths[s] = s < 144 ? 8 : s < 256 ? 9 : s < 280 ? 7 : 8;
            }
        }

        void fixDistances() {
            for (int s = 0; s < lengths.length; s++) {
                lengths[s] = 5;
            }
        }

        /** One more than the last symbol that has a code. */
        int used() {
            int used = 0;
            for (int s = 0; s < lengths.length; s++) {
                if (lengths[s] > 0) {
                    used = s + 1;
                }
            }
            return used;
        }

        int bits() {
            int bits = 0;
            for (int s = 0; s < counts.length; s++) {
                bits += counts[s] * lengths[s];
            }
            return bits;
        }

        /** Codes are kept the other way round, since they are written as numbers, lowest bit first. */
        void assign() {
            countLengths();
            int next = 0;
            for (int length = 1; length < 16; length++) {
                next = next + perLength[length - 1] << 1;
                firsts[length] = next;
            }
            for (int s = 0; s < lengths.length; s++) {
                int length = lengths[s];
                int code = firsts[length];
                firsts[length]++;
                int turned = 0;
                for (int k = 0; k < length; k++) {
                    turned = turned << 1 | code >> k & 1;
                }
                codes[s] = turned;
            }
        }

        /** Takes lengths, and ranks their symbols for reading: whether they make codes. */
        boolean take(int[] from, int at, int n, boolean mayBeNone) {
            for (int length = 0; length < 16; length++) {
                perLength[length] = 0;
            }
            for (int s = 0; s < n; s++) {
                perLength[from[at + s]]++;
            }
            int all = 0;
            int sum = 0;
            for (int length = 1; length < 16; length++) {
                firsts[length] = all;
                all += perLength[length];
                sum += perLength[length] << 15 - length;
            }
            for (int s = 0; s < n; s++) {
                int length = from[at + s];
                if (length > 0) {
                    ranked[firsts[length]] = s;
                    firsts[length]++;
                }
            }
            return sum == 32768 || all == 1 && perLength[1] == 1 || all == 0 && mayBeNone;
        }

        private void countLengths() {
            for (int length = 0; length < 16; length++) {
                perLength[length] = 0;
            }
            for (int s = 0; s < lengths.length; s++) {
                perLength[lengths[s]]++;
            }
            perLength[0] = 0;
        }
    }

    /** Makes packed rows. */
    private static final class Packer {
        private static final int PART = 4096, FAR = 32768, LONGEST = 258, CANDIDATES = 16, LISTED = 572;
        private static final int NO_PAIR = 2147483647;

        final Row packed = new Row(BLOCK + 256);
        private final int[] heads = new int[32768];
        private final int[] before = new int[BLOCK];
        private int known;
        private int mask;
        private final int[] tokenLengths = new int[PART];
        private final int[] tokenValues = new int[PART];
        private int tokens;
        private final Code symbols = new Code(286);
        private final Code distances = new Code(30);
        private final Code tellers = new Code(19);
        private final Code fixedSymbols = new Code(288);
        private final Code fixedDistances = new Code(32);
        private final int[] told = new int[320];
        private int tolds;
        private final int[] ranked = new int[286];
        private final int[] weights = new int[2 * LISTED];
        private final boolean[] pairs = new boolean[15 * LISTED];
        private int hold;
        private int held;

        Packer() {
            fixedSymbols.fixSymbols();
            fixedSymbols.assign();
            fixedDistances.fixDistances();
            fixedDistances.assign();
        }

        /** Packs n bytes: how many that makes, which stand in packed then. */
        int pack(byte[] from, int at, int n) {
            packed.clear();
            packed.put(120);
            packed.put(156);
            forgetPlaces(n);
            for (int p = 0; p < n; p += PART) {
                int stop = Math.min(n, p + PART);
                gather(from, at, p, stop);
                makeLengths(symbols, 15);
                makeLengths(distances, 15);
                tellLengths();
                makeLengths(tellers, 7);
                putBits(stop == n ? 1 : 0, 1);
                int more = moreBits();
                int stored = 2 + (6 - held & 7) + 32 + 8 * (stop - p);
                int fixed = fixedBits() + more;
                int made = madeBits() + more;
                if (stored <= fixed && stored <= made) {
                    putStored(from, at + p, stop - p);
                } else if (fixed <= made) {
                    putBits(1, 2);
                    putSymbols(fixedSymbols, fixedDistances);
                } else {
                    putLengths();
                    putSymbols(symbols, distances);
                }
            }
            putBits(0, -held & 7);
            packed.putHighestFirst(check(from, at, n));
            return packed.size;
        }

        static int check(byte[] from, int at, int n) {
            int a = 1;
            int b = 0;
            for (int i = at; i < at + n; i++) {
                a = (a + (from[i] & 255)) % 65521;
                b = (b + a) % 65521;
            }
            return b << 16 | a;
        }

        /** As many heads as the row has bytes are enough; clearing all of them for a short row would take longest. */
        private void forgetPlaces(int n) {
            hold = 0;
            held = 0;
            known = 0;
            int wide = 64;
            for (int k = 0; k < 9 && wide < n; k++) {
                wide *= 2;
            }
            mask = wide - 1;
            for (int i = 0; i < wide; i++) {
                heads[i] = 0;
            }
        }

        /** Cuts a part in single bytes and matches, and counts their symbols. */
        private void gather(byte[] from, int at, int begin, int stop) {
            symbols.clearCounts();
            distances.clearCounts();
            tokens = 0;
            int p = begin;
            for (int k = 0; k < PART && p < stop; k++) {
                long match = stop - p < 3 ? 0 : bestMatch(from, at, p, stop);
                int length = (int) (match >> 32);
                int value = length == 0 ? from[at + p] & 255 : (int) match;
                tokenLengths[tokens] = length;
                tokenValues[tokens] = value;
                tokens++;
                if (length == 0) {
                    symbols.counts[value]++;
                    p++;
                } else {
                    symbols.counts[lengthSymbol(length)]++;
                    distances.counts[distanceSymbol(value)]++;
                    p += length;
                }
            }
            symbols.counts[256]++;
        }

        /** The length of the best match, shifted left by 32, and its distance; 0 without one. */
        private long bestMatch(byte[] from, int at, int p, int stop) {
            for (; known < p; known++) {
                int hash = hash(from, at + known);
                before[known] = heads[hash];
                heads[hash] = known + 1;
            }
            int most = Math.min(LONGEST, stop - p);
            int best = 0;
            int distance = 0;
            int found = 0;
            int q = heads[hash(from, at + p)] - 1;
            for (int k = 0; k < FAR && q >= 0 && p - q <= FAR && found < CANDIDATES && best < most; k++) {
                int length = sameBytes(from, at + q, at + p, most);
                if (length >= 3) {
                    found++;
                }
                if (length >= 3 && length > best) {
                    best = length;
                    distance = p - q;
                }
                q = before[q] - 1;
            }
            return (long) best << 32 | distance;
        }

        private int hash(byte[] from, int at) {
            int three = (from[at] & 255) << 16 | (from[at + 1] & 255) << 8 | from[at + 2] & 255;
            return (three * 0x9E3779B1 >>> 15) & mask;
        }

        private static int sameBytes(byte[] from, int a, int b, int most) {
            int n = 0;
            while (n < most && from[a + n] == from[b + n]) {
                n++;
            }
            return n;
        }

        private static int lengthSymbol(int length) {
            if (length == LONGEST) {
                return 285;
            }
            int e = bitsBehindLength(length);
            return length < 11 ? length + 254 : 257 + 4 * e + (length - 3 >> e);
        }

        private static int bitsBehindLength(int length) {
            int e = 0;
            for (int k = 0; k < 5 && length < LONGEST && length - 3 >> e + 3 > 0; k++) {
                e++;
            }
            return e;
        }

        private static int distanceSymbol(int distance) {
            int e = bitsBehindDistance(distance);
            return distance < 5 ? distance - 1 : 2 * e + (distance - 1 >> e);
        }

        private static int bitsBehindDistance(int distance) {
            int e = 0;
            for (int k = 0; k < 13 && distance - 1 >> e + 2 > 0; k++) {
                e++;
            }
            return e;
        }

        private void makeLengths(Code code, int limit) {
            for (int s = 0; s < code.lengths.length; s++) {
                code.lengths[s] = 0;
            }
            int m = rankByCounts(code.counts);
            if (m == 1) {
                code.lengths[ranked[0]] = 1;
            } else if (m > 1) {
                int size = 0;
                for (int list = 0; list < limit; list++) {
                    size = makeList(code.counts, m, list, size);
                }
                takeLists(code.lengths, m, limit);
            }
            code.assign();
        }

        private int rankByCounts(int[] counts) {
            int m = 0;
            for (int s = 0; s < counts.length; s++) {
                if (counts[s] > 0) {
                    int i = m;
                    for (; i > 0 && counts[ranked[i - 1]] > counts[s]; i--) {
                        ranked[i] = ranked[i - 1];
                    }
                    ranked[i] = s;
                    m++;
                }
            }
            return m;
        }

        /** Merges the symbols with the pairs of the list before, and answers how many items that makes. */
        private int makeList(int[] counts, int m, int list, int sizeBefore) {
            int here = (list & 1) * LISTED;
            int last = LISTED - here;
            int size = m + sizeBefore / 2;
            int single = 0;
            for (int i = 0; i < size; i++) {
                int pair = 2 * (i - single);
                int both = pair + 1 < sizeBefore ? weights[last + pair] + weights[last + pair + 1] : NO_PAIR;
                boolean isPair = single == m || both < counts[ranked[single]];
                pairs[list * LISTED + i] = isPair;
                weights[here + i] = isPair ? both : counts[ranked[single]];
                single += isPair ? 0 : 1;
            }
            return size;
        }

        /** Symbols and pairs stand in their order in each list: it is enough to know how many of each are taken. */
        private void takeLists(int[] lengths, int m, int limit) {
            int taken = 2 * m - 2;
            for (int list = limit - 1; list >= 0; list--) {
                int single = 0;
                for (int i = 0; i < taken; i++) {
                    if (!pairs[list * LISTED + i]) {
                        single++;
                    }
                }
                for (int i = 0; i < single; i++) {
                    lengths[ranked[i]]++;
                }
                taken = 2 * (taken - single);
            }
        }

        private void tellLengths() {
            tellers.clearCounts();
            tolds = 0;
            int h = symbols.used();
            int all = h + Math.max(1, distances.used());
            int i = 0;
            for (int k = 0; k < 320 && i < all; k++) {
                int length = lengthAt(i, h);
                int run = 1;
                while (i + run < all && lengthAt(i + run, h) == length) {
                    run++;
                }
                tellRun(length, run);
                i += run;
            }
        }

        private int lengthAt(int i, int h) {
            return i < h ? symbols.lengths[i] : distances.lengths[i - h];
        }

        private void tellRun(int length, int run) {
            int left = run;
            if (length > 0) {
                tellOne(length, 0);
                left--;
            }
            for (int k = 0; k < 320 && left > 0; k++) {
                int n = 1;
                if (length == 0 && left >= 11) {
                    n = Math.min(138, left);
                    tellOne(18, n - 11);
                } else if (length == 0 && left >= 3) {
                    n = left;
                    tellOne(17, n - 3);
                } else if (left >= 3) {
                    n = Math.min(6, left);
                    tellOne(16, n - 3);
                } else {
                    tellOne(length, 0);
                }
                left -= n;
            }
        }

        private void tellOne(int teller, int more) {
            told[tolds] = more << 5 | teller;
            tolds++;
            tellers.counts[teller]++;
        }

        private static int bitsBehindTeller(int teller) {
            return teller < 16 ? 0 : teller == 16 ? 2 : teller == 17 ? 3 : 7;
        }

        private int tellersUsed() {
            int used = 4;
            for (int i = 4; i < 19; i++) {
                if (tellers.lengths[TELLERS[i]] > 0) {
                    used = i + 1;
                }
            }
            return used;
        }

        /** The bits behind lengths and distances, which fixed and made parts have alike. */
        private int moreBits() {
            int bits = 0;
            for (int i = 0; i < tokens; i++) {
                if (tokenLengths[i] > 0) {
                    bits += bitsBehindLength(tokenLengths[i]) + bitsBehindDistance(tokenValues[i]);
                }
            }
            return bits;
        }

        /** These two count from behind a part's first bit on, as stored does in pack. */
        private int fixedBits() {
            int bits = 2;
            for (int s = 0; s < symbols.counts.length; s++) {
                bits += symbols.counts[s] * fixedSymbols.lengths[s];
            }
            for (int s = 0; s < distances.counts.length; s++) {
                bits += distances.counts[s] * fixedDistances.lengths[s];
            }
            return bits;
        }

        private int madeBits() {
            int bits = 2 + 14 + 3 * tellersUsed() + tellers.bits() + symbols.bits() + distances.bits();
            for (int i = 0; i < tolds; i++) {
                bits += bitsBehindTeller(told[i] & 31);
            }
            return bits;
        }

        private void putStored(byte[] from, int at, int n) {
            putBits(0, 2);
            putBits(0, -held & 7);
            putBits(n, 16);
            putBits(65535 - n, 16);
            packed.putAll(from, at, n);
        }

        private void putLengths() {
            int used = tellersUsed();
            putBits(2, 2);
            putBits(symbols.used() - 257, 5);
            putBits(Math.max(1, distances.used()) - 1, 5);
            putBits(used - 4, 4);
            for (int i = 0; i < used; i++) {
                putBits(tellers.lengths[TELLERS[i]], 3);
            }
            for (int i = 0; i < tolds; i++) {
                int teller = told[i] & 31;
                putBits(tellers.codes[teller], tellers.lengths[teller]);
                putBits(told[i] >> 5, bitsBehindTeller(teller));
            }
        }

        private void putSymbols(Code bySymbols, Code byDistances) {
            for (int i = 0; i < tokens; i++) {
                int length = tokenLengths[i];
                int value = tokenValues[i];
                int symbol = length == 0 ? value : lengthSymbol(length);
                putBits(bySymbols.codes[symbol], bySymbols.lengths[symbol]);
                if (length > 0) {
                    int more = bitsBehindLength(length);
                    putBits(length - 3 & (1 << more) - 1, more);
                    int distance = distanceSymbol(value);
                    putBits(byDistances.codes[distance], byDistances.lengths[distance]);
                    more = bitsBehindDistance(value);
                    putBits(value - 1 & (1 << more) - 1, more);
                }
            }
            putBits(bySymbols.codes[256], bySymbols.lengths[256]);
        }

        private void putBits(int n, int many) {
            hold |= n << held;
            held += many;
            for (; held >= 8; held -= 8) {
                packed.put(hold);
                hold >>>= 8;
            }
        }
    }

    /** Reads packed rows, whatever bytes they are. */
    private static final class Unpacker {
        private byte[] source;
        private int bit;
        private int stop;
        private byte[] made;
        private int begin;
        private int at;
        private int limit;
        private int window;
        private boolean failed;
        private final Code symbols = new Code(288);
        private final Code distances = new Code(32);
        private final Code tellers = new Code(19);
        private final Code fixedSymbols = new Code(288);
        private final Code fixedDistances = new Code(32);
        private final int[] lengths = new int[320];
        private int symbolCount;
        private int distanceCount;

        Unpacker() {
            fixedSymbols.fixSymbols();
            fixedSymbols.take(fixedSymbols.lengths, 0, 288, false);
            fixedDistances.fixDistances();
            fixedDistances.take(fixedDistances.lengths, 0, 32, false);
        }

        /** Unpacks n bytes, to most bytes at the most: how many that made, or -1 if it is no packed row of so few. */
        int unpack(byte[] from, int fromAt, int n, byte[] to, int toAt, int most) {
            if (n < 2 || fromAt < 0 || n > from.length - fromAt || toAt < 0 || most > to.length - toAt) {
                return -1;
            }
            int x = from[fromAt] & 255;
            int y = from[fromAt + 1] & 255;
            if ((256 * x + y) % 31 != 0 || (x & 15) != 8 || x >> 4 > 7 || (y & 32) != 0) {
                return -1;
            }
            source = from;
            bit = 8 * (fromAt + 2);
            stop = 8 * (fromAt + n);
            made = to;
            begin = toAt;
            at = toAt;
            limit = toAt + most;
            window = 256 << (x >> 4);
            failed = false;
            boolean last = false;
            for (int k = 0; k < 8 * n && !last && !failed; k++) {
                last = bits(1) == 1;
                int sort = bits(2);
                if (sort == 0) {
                    copyStored();
                } else if (sort == 1) {
                    takeSymbols(fixedSymbols, fixedDistances);
                } else if (sort == 2 && takeTellers() && takeLengths() && takeCodes()) {
                    takeSymbols(symbols, distances);
                } else {
                    failed = true;
                }
            }
            bit = bit + 7 & -8;
            if (failed || !last || bit != stop - 32) {
                return -1;
            }
            int count = at - begin;
            return checkHolds(Packer.check(to, toAt, count)) ? count : -1;
        }

        private boolean checkHolds(int check) {
            int from = bit >> 3;
            int told = source[from] << 24 | (source[from + 1] & 255) << 16
                    | (source[from + 2] & 255) << 8 | source[from + 3] & 255;
            return told == check;
        }

        private void copyStored() {
            bit = bit + 7 & -8;
            int n = bits(16);
            int other = bits(16);
            if (failed || n + other != 65535 || n > (stop - bit) / 8 || n > limit - at) {
                failed = true;
                return;
            }
            System.arraycopy(source, bit / 8, made, at, n);
            bit += 8 * n;
            at += n;
        }

        private boolean takeTellers() {
            symbolCount = bits(5) + 257;
            distanceCount = bits(5) + 1;
            int c = bits(4) + 4;
            for (int i = 0; i < 19; i++) {
                lengths[TELLERS[i]] = i < c ? bits(3) : 0;
            }
            return !failed && symbolCount <= 286 && distanceCount <= 30 && tellers.take(lengths, 0, 19, false);
        }

        private boolean takeLengths() {
            int all = symbolCount + distanceCount;
            int i = 0;
            for (int k = 0; k < all && i < all; k++) {
                int teller = symbol(tellers);
                int length = teller;
                int n = 1;
                if (teller == 16) {
                    length = i == 0 ? -1 : lengths[i - 1];
                    n = 3 + bits(2);
                } else if (teller == 17) {
                    length = 0;
                    n = 3 + bits(3);
                } else if (teller == 18) {
                    length = 0;
                    n = 11 + bits(7);
                }
                if (failed || length < 0 || n > all - i) {
                    return false;
                }
                for (int last = i + n; i < last; i++) {
                    lengths[i] = length;
                }
            }
            return true;
        }

        private boolean takeCodes() {
            return lengths[256] > 0 && symbols.take(lengths, 0, symbolCount, false)
                    && distances.take(lengths, symbolCount, distanceCount, true);
        }

        /** Each symbol but the last one makes a byte, so there can be no more of them than there is room. */
        private void takeSymbols(Code bySymbols, Code byDistances) {
            for (int k = limit - at; k >= 0 && !failed; k--) {
                int symbol = symbol(bySymbols);
                if (symbol == 256) {
                    return;
                }
                if (symbol < 256) {
                    putByte(symbol);
                } else {
                    int length = lengthBase(symbol) + bits(lengthMore(symbol));
                    int d = symbol(byDistances);
                    int distance = distanceBase(d) + bits(distanceMore(d));
                    failed |= symbol > 285 || d > 29;
                    copyBack(length, distance);
                }
            }
            failed = true;
        }

        private void putByte(int b) {
            if (failed || at >= limit) {
                failed = true;
                return;
            }
            made[at] = (byte) b;
            at++;
        }

        private void copyBack(int length, int distance) {
            if (failed || distance > at - begin || distance > window || length > limit - at) {
                failed = true;
                return;
            }
            for (int i = 0; i < length; i++) {
                made[at] = made[at - distance];
                at++;
            }
        }

        private static int lengthMore(int symbol) {
            return symbol < 265 || symbol > 284 ? 0 : (symbol - 261) / 4;
        }

        private static int lengthBase(int symbol) {
            if (symbol < 265) {
                return symbol - 254;
            }
            return symbol > 284 ? 258 : 3 + (4 + (symbol - 261) % 4 << (symbol - 261) / 4);
        }

        private static int distanceMore(int d) {
            return d < 4 || d > 29 ? 0 : d / 2 - 1;
        }

        private static int distanceBase(int d) {
            return d < 4 || d > 29 ? d + 1 : 1 + (2 + d % 2 << d / 2 - 1);
        }

        private int bits(int many) {
            if (failed || many > stop - bit) {
                failed = true;
                return 0;
            }
            int n = 0;
            for (int k = 0; k < many; k++) {
                n |= (source[bit >> 3] >> (bit & 7) & 1) << k;
                bit++;
            }
            return n;
        }

        private int symbol(Code code) {
            int value = 0;
            int first = 0;
            int ranks = 0;
            for (int length = 1; length < 16; length++) {
                if (failed || bit >= stop) {
                    break;
                }
                value = value << 1 | source[bit >> 3] >> (bit & 7) & 1;
                bit++;
                int many = code.perLength[length];
                if (value - first < many) {
                    return code.ranked[ranks + value - first];
                }
                ranks += many;
                first = first + many << 1;
            }
            failed = true;
            return 0;
        }
    }

    /** Makes an image of the tree, in a row of its own, so that what would be too much leaves no trace. */
    private static final class Freezer {
        final Row next = new Row(IMAGE);
        final Node[] nodes = new Node[NODES + 1];
        int count;
        private final Packer packer = new Packer();
        private final PieceRow inodes = new PieceRow(ROW);
        private final PieceRow folders = new PieceRow(ROW);
        private final PieceRow fragments = new PieceRow(PIECE);
        private final PieceRow exports = new PieceRow(8 * NODES);
        private final PieceRow ids = new PieceRow(8 * NODES);
        private final Row folderPieces = new Row(ROW + 2 * (ROW / PIECE));
        private final Row fragment = new Row(BLOCK);
        private final Row blocks = new Row(4 * (NODES + FILE_BYTES / 4096));
        private final Row indexes = new Row(PIECE);
        private int indexCount;
        private int listing;
        private final int[] walked = new int[DEEP + 1];
        private int block = BLOCK;
        private int options;
        private int inodesAt;

        void begin(Tree tree, int log, int chosen) {
            block = 1 << log;
            options = chosen;
            next.clear();
            next.putZeros(SUPER);
            inodes.clear();
            folders.clear();
            fragments.clear();
            exports.clear();
            ids.clear();
            folderPieces.clear();
            fragment.clear();
            blocks.clear();
            numberNodes(tree);
            for (int number = 1; number <= count; number++) {
                addId(nodes[number].owner);
                addId(nodes[number].group);
            }
        }

        boolean ranOver() {
            return next.over || inodes.row.over || folders.row.over || folderPieces.over;
        }

        void putData(Tree tree) {
            for (int number = 1; number <= count; number++) {
                Node file = nodes[number];
                if (file.kind == FILE && !sharesData(tree.files, file)) {
                    putBlocks(tree.files, file);
                    if (fragment.size + restOf(file) > block) {
                        closeFragment();
                    }
                    putRest(tree.files, file);
                }
            }
            closeFragment();
            inodesAt = next.size;
        }

        /** Goes down to a directory's directories before the directory itself is put. */
        void putRows(Tree tree) {
            Node folder = nodes[1];
            walked[0] = tree.first(folder);
            for (int step = 0; step < 2 * NODES && folder != null; step++) {
                Node below = nextFolder(tree, folder);
                if (below != null) {
                    walked[below.depth] = tree.first(below);
                    folder = below;
                } else {
                    putOthers(tree, folder);
                    putListing(tree, folder);
                    putInode(tree, folder);
                    inodes.close(packer, packsRows(), next, PIECE);
                    folder = folder.home;
                }
            }
            inodes.close(packer, packsRows(), next, 1);
            folders.close(packer, packsRows(), folderPieces, 1);
        }

        void putTables(int log, int time) {
            int foldersAt = next.size;
            next.putAll(folderPieces.bytes, 0, folderPieces.size);
            long fragmentList = ONES;
            if (fragments.row.size > 0) {
                fragmentList = putTable(fragments);
            }
            long exportList = ONES;
            if ((options & EXPORT) != 0) {
                for (int number = 1; number <= count; number++) {
                    exports.row.putEight(nodes[number].reference);
                }
                exportList = putTable(exports);
            }
            long idList = putTable(ids);
            int used = next.size;
            next.size = 0;
            putHead(log, time);
            next.putEight(used);
            next.putEight(idList);
            next.putEight(ONES);
            next.putEight(inodesAt);
            next.putEight(foldersAt);
            next.putEight(fragmentList);
            next.putEight(exportList);
            next.size = used;
        }

        private void putHead(int log, int time) {
            next.putFour(MAGIC);
            next.putFour(count);
            next.putFour(time);
            next.putFour(block);
            next.putFour(fragments.row.size / 16);
            next.putTwo(1);
            next.putTwo(log);
            next.putTwo(flags());
            next.putTwo(ids.row.size / 4);
            next.putTwo(4);
            next.putTwo(0);
            next.putEight(nodes[1].reference);
        }

        private int flags() {
            return 576 + ((options & EXPORT) != 0 ? 128 : 0) + ((options & PLAIN_ROWS) != 0 ? 2049 : 0)
                    + ((options & PLAIN_DATA) != 0 ? 10 : 0) + ((options & NO_FRAGMENTS) != 0 ? 16 : 0);
        }

        private boolean packsRows() {
            return (options & PLAIN_ROWS) == 0;
        }

        private int putTable(PieceRow table) {
            int begin = next.size;
            table.close(packer, packsRows(), next, 1);
            int list = next.size;
            for (int k = 0; k < table.pieces; k++) {
                next.putEight(begin + table.starts[k]);
            }
            return list;
        }

        private void numberNodes(Tree tree) {
            for (int i = 0; i < tree.made; i++) {
                if (tree.nodes[i] != null) {
                    tree.nodes[i].inode = 0;
                    tree.nodes[i].reference = -1;
                }
            }
            count = 0;
            giveNumber(tree.nodes[0]);
            for (int number = 1; number <= count; number++) {
                Node folder = nodes[number];
                int first = tree.first(folder);
                for (int i = first; i < first + folder.entries; i++) {
                    giveNumber(tree.children[i]);
                }
            }
        }

        private void giveNumber(Node node) {
            if (node.inode == 0 && count < NODES) {
                count++;
                node.inode = count;
                nodes[count] = node;
            }
        }

        private void addId(int id) {
            if (idPlace(id) < 0) {
                ids.row.putFour(id);
            }
        }

        private int idPlace(int id) {
            for (int i = 0; i < ids.row.size / 4; i++) {
                if (ids.row.four(4 * i) == id) {
                    return i;
                }
            }
            return -1;
        }

        private boolean sharesData(Row files, Node file) {
            for (int number = 1; number < file.inode; number++) {
                Node other = nodes[number];
                if (other.kind == FILE && other.size == file.size
                        && order(files.bytes, other.at, other.size, files.bytes, file.at, file.size) == 0) {
                    file.begin = other.begin;
                    file.firstBlock = other.firstBlock;
                    file.fragment = other.fragment;
                    file.offset = other.offset;
                    return true;
                }
            }
            return false;
        }

        /** How many bytes of a file go to a fragment. */
        private int restOf(Node file) {
            return (options & NO_FRAGMENTS) != 0 ? 0 : file.size % block;
        }

        private int blockCount(Node file) {
            return (file.size - restOf(file) + block - 1) / block;
        }

        private void putBlocks(Row files, Node file) {
            int many = blockCount(file);
            file.begin = many > 0 ? next.size : 0;
            file.firstBlock = blocks.size;
            for (int i = 0; i < many; i++) {
                int n = Math.min(block, file.size - i * block);
                int at = file.at + i * block;
                blocks.putFour(isZeros(files.bytes, at, n) ? 0 : putBlock(files.bytes, at, n));
            }
        }

        private static boolean isZeros(byte[] bytes, int at, int n) {
            for (int i = at; i < at + n; i++) {
                if (bytes[i] != 0) {
                    return false;
                }
            }
            return true;
        }

        /** Puts a block or a fragment behind the data: its block number. */
        private int putBlock(byte[] bytes, int at, int n) {
            int packed = (options & PLAIN_DATA) != 0 ? n : packer.pack(bytes, at, n);
            if (packed < n) {
                next.putAll(packer.packed.bytes, 0, packed);
                return packed;
            }
            next.putAll(bytes, at, n);
            return n + BLOCK_AS_IS;
        }

        private void putRest(Row files, Node file) {
            int rest = restOf(file);
            file.fragment = rest == 0 ? ONES : fragments.row.size / 16;
            file.offset = rest == 0 ? 0 : fragment.size;
            fragment.putAll(files.bytes, file.at + file.size - rest, rest);
        }

        private void closeFragment() {
            if (fragment.size > 0) {
                fragments.row.putEight(next.size);
                fragments.row.putFour(putBlock(fragment.bytes, 0, fragment.size));
                fragments.row.putFour(0);
                fragment.clear();
            }
        }

        private Node nextFolder(Tree tree, Node folder) {
            int stop = tree.first(folder) + folder.entries;
            for (int i = walked[folder.depth]; i < stop; i++) {
                if (tree.children[i].kind == FOLDER) {
                    walked[folder.depth] = i + 1;
                    return tree.children[i];
                }
            }
            walked[folder.depth] = stop;
            return null;
        }

        private void putOthers(Tree tree, Node folder) {
            int first = tree.first(folder);
            for (int i = first; i < first + folder.entries; i++) {
                Node child = tree.children[i];
                if (child.reference < 0) {
                    putInode(tree, child);
                    inodes.close(packer, packsRows(), next, PIECE);
                }
            }
        }

        private void putListing(Tree tree, Node folder) {
            Row row = folders.row;
            listing = row.size;
            indexes.clear();
            indexCount = 0;
            int head = 0;
            int told = 0;
            Node leader = null;
            int first = tree.first(folder);
            for (int i = first; i < first + folder.entries; i++) {
                Node child = tree.children[i];
                if (leader == null || told == 256 || row.size / PIECE != head / PIECE || !goesWith(child, leader)) {
                    if (leader != null && row.size / PIECE != head / PIECE) {
                        addIndex(row.size, tree.names[i]);
                    }
                    head = row.size;
                    told = 0;
                    leader = child;
                    row.putFour(0);
                    row.putFour((int) (child.reference >> 16));
                    row.putFour(child.inode);
                }
                putEntry(child, leader, tree.names[i]);
                // A piece may get full, and be packed, with this very entry: the head must tell it by then.
                if (head < row.size) {
                    row.bytes[head] = (byte) told;
                }
                told++;
                folders.close(packer, packsRows(), folderPieces, PIECE);
            }
        }

        private static boolean goesWith(Node child, Node leader) {
            int more = child.inode - leader.inode;
            return child.reference >> 16 == leader.reference >> 16 && more >= -32768 && more <= 32767;
        }

        private void putEntry(Node child, Node leader, Row name) {
            folders.row.putTwo((int) (child.reference & 65535));
            folders.row.putTwo(child.inode - leader.inode);
            folders.row.putTwo(child.kind);
            folders.row.putTwo(name.size - 1);
            folders.row.putAll(name.bytes, 0, name.size);
        }

        private void addIndex(int head, Row name) {
            indexes.putFour(head - listing);
            indexes.putFour(folders.startAt(head));
            indexes.putFour(name.size - 1);
            indexes.putAll(name.bytes, 0, name.size);
            indexCount++;
        }

        private void putInode(Tree tree, Node node) {
            node.reference = inodes.reference(inodes.row.size);
            if (node.kind == FOLDER) {
                putFolder(node, tree.foldersIn(node) + 2);
            } else if (node.kind == FILE) {
                putFile(node);
            } else {
                putCommon(node, node.kind);
                inodes.row.putFour(node.links);
                if (node.kind == LINK) {
                    inodes.row.putFour(node.target.size);
                    inodes.row.putAll(node.target.bytes, 0, node.target.size);
                } else if (node.kind == BLOCK_DEVICE || node.kind == CHARACTER_DEVICE) {
                    inodes.row.putFour(node.device);
                }
            }
        }

        private void putCommon(Node node, int type) {
            inodes.row.putTwo(type);
            inodes.row.putTwo(node.mode);
            inodes.row.putTwo(idPlace(node.owner));
            inodes.row.putTwo(idPlace(node.group));
            inodes.row.putFour(node.time);
            inodes.row.putFour(node.inode);
        }

        private void putFolder(Node folder, int links) {
            Row row = inodes.row;
            int size = folders.row.size - listing + 3;
            int start = folders.startAt(listing);
            int offset = listing % PIECE;
            int parent = folder.home == null ? count + 1 : folder.home.inode;
            boolean extended = indexCount > 0 || size > 65535;
            putCommon(folder, extended ? FOLDER + KINDS : FOLDER);
            if (extended) {
                row.putFour(links);
                row.putFour(size);
                row.putFour(start);
                row.putFour(parent);
                row.putTwo(indexCount);
                row.putTwo(offset);
                row.putFour(ONES);
                row.putAll(indexes.bytes, 0, indexes.size);
            } else {
                row.putFour(start);
                row.putFour(links);
                row.putTwo(size);
                row.putTwo(offset);
                row.putFour(parent);
            }
        }

        private void putFile(Node file) {
            Row row = inodes.row;
            int zeros = bytesOfZeros(file);
            boolean extended = file.links > 1 || zeros > 0;
            putCommon(file, extended ? FILE + KINDS : FILE);
            if (extended) {
                row.putEight(file.begin);
                row.putEight(file.size);
                row.putEight(zeros);
                row.putFour(file.links);
                row.putFour(file.fragment);
                row.putFour(file.offset);
                row.putFour(ONES);
            } else {
                row.putFour(file.begin);
                row.putFour(file.fragment);
                row.putFour(file.offset);
                row.putFour(file.size);
            }
            row.putAll(blocks.bytes, file.firstBlock, 4 * blockCount(file));
        }

        private int bytesOfZeros(Node file) {
            int zeros = 0;
            for (int i = 0; i < blockCount(file); i++) {
                if (blocks.four(file.firstBlock + 4 * i) == 0) {
                    zeros += Math.min(block, file.size - i * block);
                }
            }
            return zeros;
        }
    }

    /**
     * The inodes of a mounted image: where each one begins, and what stands in it.
     * What is added to such a place is where the field stands among those that the form tells.
     */
    private static final class Inodes {
        private static final int[] FIXED = {0, 32, 32, 24, 24, 24, 20, 20, 40, 56, 24, 28, 28, 24, 24};

        final PieceRow pieces = new PieceRow(ROW);
        final Row row = pieces.row;
        int count;
        private int block = BLOCK;
        private final int[] begins = new int[TABLE + 1];
        private final int[] numbers = new int[TABLE];
        private final int[] places = new int[TABLE + 1];

        /** Whether the row is so many inodes, each as the form says, and no number is there twice. */
        boolean hold(int many, int blockBytes, int ids, int fragments) {
            count = many;
            block = blockBytes;
            for (int number = 1; number <= many; number++) {
                places[number] = -1;
            }
            int at = 0;
            for (int i = 0; i < many; i++) {
                int length = headHolds(at, ids) ? checkedLength(at, fragments) : -1;
                int number = row.four(at + 12);
                if (length < 0 || length > row.size - at || number < 1 || number > many || places[number] >= 0) {
                    return false;
                }
                begins[i] = at;
                numbers[i] = number;
                places[number] = at;
                at += length;
            }
            begins[many] = at;
            return at == row.size;
        }

        int placeOf(int number) {
            return places[number];
        }

        int kindOf(int number) {
            return kind(places[number]);
        }

        /** One byte is enough: no inode has a greater type. */
        int type(int at) {
            return row.bytes[at];
        }

        int kind(int at) {
            return row.bytes[at] > KINDS ? row.bytes[at] - KINDS : row.bytes[at];
        }

        boolean isExtended(int at) {
            return row.bytes[at] > KINDS;
        }

        /** The number of the inode that begins just there in the row; 0 if none does. */
        int numberAt(int at) {
            int low = 0;
            int high = count;
            for (int k = 0; k < 32 && low < high; k++) {
                int middle = (low + high) / 2;
                if (begins[middle] < at) {
                    low = middle + 1;
                } else {
                    high = middle;
                }
            }
            return low < count && begins[low] == at ? numbers[low] : 0;
        }

        /** Of the inode to which a reference leads; 0 if it leads to none. */
        int numberBy(long reference) {
            int at = pieces.flat(pieces.pieceWith(reference >>> 16), (int) (reference & 65535));
            return at < 0 ? 0 : numberAt(at);
        }

        long links(int at) {
            int type = type(at);
            if (type == FILE) {
                return 1;
            }
            return unsigned(row.four(type == FOLDER ? at + 20 : type == FILE + KINDS ? at + 40 : at + 16));
        }

        long listingSize(int at) {
            return (isExtended(at) ? unsigned(row.four(at + 20)) : row.two(at + 24)) - 3;
        }

        long listingStart(int at) {
            return unsigned(row.four(isExtended(at) ? at + 24 : at + 16));
        }

        int listingOffset(int at) {
            return row.two(isExtended(at) ? at + 34 : at + 26);
        }

        long parent(int at) {
            return unsigned(row.four(at + 28));
        }

        int indexesAt(int at) {
            return at + FIXED[type(at)];
        }

        int indexCount(int at) {
            return isExtended(at) ? row.two(at + 32) : 0;
        }

        long fileSize(int at) {
            return isExtended(at) ? row.eight(at + 24) : unsigned(row.four(at + 28));
        }

        long fileBegin(int at) {
            return isExtended(at) ? row.eight(at + 16) : unsigned(row.four(at + 16));
        }

        int fragment(int at) {
            return row.four(isExtended(at) ? at + 44 : at + 20);
        }

        long fragmentOffset(int at) {
            return unsigned(row.four(isExtended(at) ? at + 48 : at + 24));
        }

        /** A file's bytes behind its last whole block. */
        int rest(int at) {
            return (int) (fileSize(at) % block);
        }

        long blockCount(int at) {
            long size = fileSize(at);
            return size / block + (size % block > 0 && fragment(at) == ONES ? 1 : 0);
        }

        int blockNumber(int at, int i) {
            return row.four(at + FIXED[type(at)] + 4 * i);
        }

        /** How many bytes a file's block i must have. */
        int blockBytes(int at, int i) {
            return (int) Math.min(block, fileSize(at) - (long) i * block);
        }

        long targetSize(int at) {
            return unsigned(row.four(at + 20));
        }

        void copyTarget(int number, Row to) {
            int at = places[number];
            to.clear();
            to.putAll(row.bytes, at + 24, (int) targetSize(at));
        }

        private boolean headHolds(int at, int ids) {
            int type = row.two(at);
            return at <= row.size - 16 && type >= 1 && type <= 2 * KINDS && at <= row.size - FIXED[type]
                    && row.two(at + 2) <= 4095 && row.two(at + 4) < ids && row.two(at + 6) < ids;
        }

        /** How many bytes an inode has, or -1 where it is not as the form says. */
        private int checkedLength(int at, int fragments) {
            int type = type(at);
            int kind = kind(at);
            int fixed = FIXED[type];
            if (kind == FOLDER) {
                return folderLength(at);
            }
            if (kind == FILE) {
                return fileLength(at, fragments);
            }
            if (kind == LINK) {
                return linkLength(at);
            }
            return type <= KINDS || row.four(at + fixed - 4) == ONES ? fixed : -1;
        }

        private int folderLength(int at) {
            if (listingSize(at) < 0 || isExtended(at) && row.four(at + 36) != ONES) {
                return -1;
            }
            int to = indexesAt(at);
            for (int i = indexCount(at); i > 0; i--) {
                int name = row.four(to + 8);
                if (to > row.size - 12 || name < 0 || name >= NAME) {
                    return -1;
                }
                to += 12 + name + 1;
            }
            return to - at;
        }

        private int fileLength(int at, int fragments) {
            long size = fileSize(at);
            int fixed = FIXED[type(at)];
            if (size < 0 || size >= 1L << 40 || isExtended(at) && row.four(at + 52) != ONES) {
                return -1;
            }
            if (fragment(at) != ONES && (unsigned(fragment(at)) >= fragments || rest(at) == 0
                    || fragmentOffset(at) + rest(at) > block)) {
                return -1;
            }
            long many = blockCount(at);
            if (many > (row.size - at - fixed) / 4) {
                return -1;
            }
            for (int i = 0; i < many; i++) {
                int number = blockNumber(at, i);
                int bytes = number & BLOCK_AS_IS - 1;
                if (number < 0 || number >= 2 * BLOCK_AS_IS || bytes > block || bytes == 0 && number != 0) {
                    return -1;
                }
            }
            return fixed + 4 * (int) many;
        }

        private int linkLength(int at) {
            long size = targetSize(at);
            if (size < 1 || size > 16384) {
                return -1;
            }
            int behind = 24 + (int) size;
            if (!isExtended(at)) {
                return behind;
            }
            return row.four(at + behind) == ONES ? behind + 4 : -1;
        }
    }

    /** The listings of a mounted image: a walk through one of them, and what the walks through all have counted. */
    private static final class Listings {
        final Inodes inodes = new Inodes();
        final PieceRow pieces = new PieceRow(ROW);
        final Row row = pieces.row;
        private int begin;
        private int at;
        private int stop;
        private int head;
        private int left;
        private int inodePiece;
        private long base;
        int nameAt;
        int nameSize;
        private int entryAt;
        private final int[] ties = new int[TABLE + 1];
        private final int[] homes = new int[TABLE + 1];
        final int[] entries = new int[TABLE + 1];
        private final int[] folders = new int[TABLE + 1];

        /** Goes before the first entry of a directory: false if its listing does not begin or end in the row. */
        boolean open(int number) {
            int inode = inodes.placeOf(number);
            long size = inodes.listingSize(inode);
            left = 0;
            begin = 0;
            if (size > 0) {
                int piece = pieces.pieceWith(inodes.listingStart(inode));
                begin = pieces.flat(piece, inodes.listingOffset(inode));
                if (begin < 0 || size > row.size - begin) {
                    return false;
                }
            }
            at = begin;
            stop = begin + (int) size;
            return true;
        }

        /** Goes to the next entry: false where there is none, or none as the form says. */
        boolean next() {
            if (left == 0 && (at >= stop || !takeHead())) {
                return false;
            }
            nameAt = at + 8;
            nameSize = row.two(at + 6) + 1;
            if (nameAt > stop || nameSize > NAME || nameSize > stop - nameAt) {
                return false;
            }
            entryAt = at;
            at = nameAt + nameSize;
            left--;
            return true;
        }

        /** The inode's number, as the entry tells it. */
        long child() {
            return base + (short) row.two(entryAt + 2);
        }

        boolean isNamed(byte[] bytes, int from, int n) {
            return order(row.bytes, nameAt, nameSize, bytes, from, n) == 0;
        }

        boolean hold() {
            for (int number = 1; number <= inodes.count; number++) {
                ties[number] = 0;
                homes[number] = 0;
                entries[number] = 0;
                folders[number] = 0;
            }
            for (int number = 1; number <= inodes.count; number++) {
                if (inodes.kindOf(number) == FOLDER && !listingHolds(number)) {
                    return false;
                }
            }
            return true;
        }

        /** Whether the entries make a tree with that root, as the inodes tell it. */
        boolean makeTree(int root) {
            if (root == 0 || inodes.kindOf(root) != FOLDER) {
                return false;
            }
            for (int number = 1; number <= inodes.count; number++) {
                boolean isFolder = inodes.kindOf(number) == FOLDER;
                int links = isFolder ? folders[number] + 2 : ties[number];
                if (inodes.links(inodes.placeOf(number)) != links) {
                    return false;
                }
                if (isFolder ? !folderHolds(number, root) : ties[number] == 0) {
                    return false;
                }
            }
            return true;
        }

        private boolean takeHead() {
            int more = row.four(at);
            inodePiece = inodes.pieces.pieceWith(unsigned(row.four(at + 4)));
            if (at > stop - 12 || more < 0 || more > 255 || inodePiece < 0) {
                return false;
            }
            base = unsigned(row.four(at + 8));
            head = at;
            left = more + 1;
            at += 12;
            return true;
        }

        private boolean listingHolds(int number) {
            int inode = inodes.placeOf(number);
            int index = inodes.indexesAt(inode);
            int indexesLeft = inodes.indexCount(inode);
            if (!open(number)) {
                return false;
            }
            int lastAt = 0;
            int lastSize = 0;
            for (int k = 0; k < ROW && next(); k++) {
                if (!entryHolds() || order(row.bytes, lastAt, lastSize, row.bytes, nameAt, nameSize) >= 0) {
                    return false;
                }
                count(number, (int) child());
                lastAt = nameAt;
                lastSize = nameSize;
                boolean leads = entryAt == head + 12 && head > begin;
                if (leads && indexesLeft > 0 && unsigned(inodes.row.four(index)) == head - begin) {
                    if (!indexHolds(index)) {
                        return false;
                    }
                    index += 12 + nameSize;
                    indexesLeft--;
                }
            }
            return at == stop && left == 0 && indexesLeft == 0;
        }

        private boolean entryHolds() {
            int inode = inodes.pieces.flat(inodePiece, row.two(entryAt));
            int number = inode < 0 ? 0 : inodes.numberAt(inode);
            return number != 0 && number == child() && inodes.kindOf(number) == row.two(entryAt + 4)
                    && isName(row.bytes, nameAt, nameSize);
        }

        /** Of an index whose place is that of the header at hand. */
        private boolean indexHolds(int index) {
            return inodes.row.four(index + 4) == pieces.startAt(head)
                    && isNamed(inodes.row.bytes, index + 12, inodes.row.four(index + 8) + 1);
        }

        private void count(int folder, int child) {
            entries[folder]++;
            ties[child]++;
            homes[child] = folder;
            if (inodes.kindOf(child) == FOLDER) {
                folders[folder]++;
            }
        }

        private boolean folderHolds(int number, int root) {
            long parent = inodes.parent(inodes.placeOf(number));
            if (number == root) {
                return ties[number] == 0 && parent == inodes.count + 1;
            }
            return ties[number] == 1 && parent == homes[number] && isReached(number, root);
        }

        private boolean isReached(int number, int root) {
            int above = number;
            for (int k = 0; k < DEEP && above != root; k++) {
                above = homes[above];
            }
            return above == root;
        }
    }

    /** The image, what is to be looked at before it is mounted, and the answers when it is. */
    private static final class Volume {
        private static final int INODE_COUNT = 4, BLOCK_BYTES = 12, FRAGMENT_COUNT = 16, PACKING = 20, LOG = 22;
        private static final int FLAGS = 24, ID_COUNT = 26, VERSION = 28, ROOT = 32, USED = 40, ID_LIST = 48;
        private static final int NO_LIST = 56, INODE_ROW = 64, FOLDER_ROW = 72, FRAGMENT_LIST = 80, EXPORT_LIST = 88;
        private static final int BROKEN = -1;

        final Row image = new Row(IMAGE);
        final Listings listings = new Listings();
        final Inodes inodes = listings.inodes;
        private final PieceRow fragments = new PieceRow(16 * TABLE);
        private final PieceRow exports = new PieceRow(8 * TABLE);
        private final PieceRow ids = new PieceRow(4 * TABLE);
        private final Unpacker unpacker = new Unpacker();
        private final byte[] loaded = new byte[BLOCK];
        private final int[] fragmentSizes = new int[TABLE];
        private int block = BLOCK;
        private int inodeCount;
        private int fragmentCount;
        private int idCount;
        private boolean exported;
        private int used;
        private int inodesAt;
        private int foldersAt;
        private int root;

        /** The first fault of the image, or 0. */
        int fault() {
            if (!superHolds()) {
                return 1;
            }
            if (!placesHold()) {
                return 2;
            }
            if (!piecesHold()) {
                return 3;
            }
            if (!fragmentsHold()) {
                return 4;
            }
            if (!inodes.hold(inodeCount, block, idCount, fragmentCount) || !exportsHold()) {
                return 5;
            }
            if (!listings.hold()) {
                return 6;
            }
            root = inodes.numberBy(image.eight(ROOT));
            if (!listings.makeTree(root)) {
                return 7;
            }
            return dataFits() && fragmentsUnpack() && blocksUnpack() ? 0 : 8;
        }

        int follow(int number, Row path) {
            if (inodes.kindOf(number) != FOLDER) {
                return NOT_FOLDER;
            }
            int here = number;
            int from = 0;
            for (int i = 0; i <= path.size; i++) {
                if (i < path.size && path.bytes[i] != SLASH) {
                    continue;
                }
                if (i > from) {
                    if (inodes.kindOf(here) != FOLDER) {
                        return NOT_FOLDER;
                    }
                    here = isParent(path.bytes, from, i - from) ? parentOf(here) : childOf(here, path, from, i - from);
                }
                if (here < 0) {
                    return here;
                }
                from = i + 1;
            }
            return here;
        }

        long tell(int number, int what) {
            int at = inodes.placeOf(number);
            int kind = inodes.kind(at);
            Row row = inodes.row;
            switch (what) {
                case 0: return kind;
                case 1: return row.two(at + 2);
                case 2: return unsigned(ids.row.four(4 * row.two(at + 4)));
                case 3: return unsigned(ids.row.four(4 * row.two(at + 6)));
                case 4: return unsigned(row.four(at + 8));
                case 5: return kind == FILE ? inodes.fileSize(at) : kind == LINK ? inodes.targetSize(at) : 0;
                case 6: return inodes.links(at);
                case 7: return kind == BLOCK_DEVICE || kind == CHARACTER_DEVICE ? unsigned(row.four(at + 20)) : 0;
                case 8: return kind == FOLDER ? parentOf(number) : 0;
                case 9: return listings.entries[number];
                case 10: return kind == FILE ? inodes.blockCount(at) : 0;
                case 11: return inodes.type(at);
                default: return BAD;
            }
        }

        int copyEntry(int number, int i, Row to) {
            if (inodes.kindOf(number) != FOLDER) {
                return NOT_FOLDER;
            }
            if (i < 0 || i >= listings.entries[number] || !listings.open(number)) {
                return NONE;
            }
            for (int k = 0; k <= i; k++) {
                if (!listings.next()) {
                    return NONE;
                }
            }
            to.clear();
            to.putAll(listings.row.bytes, listings.nameAt, listings.nameSize);
            return (int) listings.child();
        }

        void copyBytes(int number, long from, int n, Row to) {
            int at = inodes.placeOf(number);
            int many = (int) Math.max(0, Math.min(n, inodes.fileSize(at) - from));
            to.clear();
            for (int k = 0; k <= IMAGE / 4096 && to.size < many; k++) {
                long here = from + to.size;
                int i = (int) (here / block);
                int skip = (int) (here % block);
                if (i >= inodes.blockCount(at)) {
                    loadFragment(inodes.fragment(at));
                    to.putAll(loaded, (int) inodes.fragmentOffset(at) + skip, many - to.size);
                    continue;
                }
                int rest = Math.min(many - to.size, block - skip);
                int blockNumber = inodes.blockNumber(at, i);
                if (blockNumber == 0) {
                    to.putZeros(rest);
                } else {
                    load(placeOfBlock(at, i), blockNumber);
                    to.putAll(loaded, skip, rest);
                }
            }
        }

        int placeOfData(int number) {
            int at = inodes.placeOf(number);
            for (int i = 0; i < inodes.blockCount(at); i++) {
                if (inodes.blockNumber(at, i) != 0) {
                    return (int) inodes.fileBegin(at);
                }
            }
            int fragment = inodes.fragment(at);
            return fragment == ONES ? 0 : (int) fragments.row.eight(16 * fragment);
        }

        private int parentOf(int folder) {
            return folder == root ? root : (int) inodes.parent(inodes.placeOf(folder));
        }

        private int childOf(int folder, Row path, int from, int n) {
            if (!listings.open(folder)) {
                return NONE;
            }
            for (int k = 0; k < ROW && listings.next(); k++) {
                if (listings.isNamed(path.bytes, from, n)) {
                    return (int) listings.child();
                }
            }
            return NONE;
        }

        private boolean superHolds() {
            if (image.size < SUPER) {
                return false;
            }
            int log = image.two(LOG);
            if (image.four(0) != MAGIC || image.two(PACKING) != 1 || image.four(VERSION) != 4
                    || image.eight(NO_LIST) != ONES || (image.two(FLAGS) & 1024) != 0
                    || log < 12 || log > 16 || image.four(BLOCK_BYTES) != 1 << log) {
                return false;
            }
            inodeCount = image.four(INODE_COUNT);
            fragmentCount = image.four(FRAGMENT_COUNT);
            idCount = image.two(ID_COUNT);
            if (inodeCount < 1 || inodeCount > TABLE || fragmentCount < 0 || fragmentCount > TABLE
                    || idCount < 1 || idCount > TABLE || fragmentCount == 0 != (image.eight(FRAGMENT_LIST) == ONES)) {
                return false;
            }
            // What is too great for a long's sign is below 0 here, and so below what it may not be below.
            long inodeRow = image.eight(INODE_ROW);
            long folderRow = image.eight(FOLDER_ROW);
            long usedBytes = image.eight(USED);
            if (inodeRow < SUPER || folderRow < inodeRow || usedBytes < folderRow || usedBytes > image.size) {
                return false;
            }
            block = 1 << log;
            exported = image.eight(EXPORT_LIST) != ONES;
            used = (int) usedBytes;
            inodesAt = (int) inodeRow;
            foldersAt = (int) folderRow;
            return true;
        }

        private boolean placesHold() {
            int at = foldersAt;
            boolean first = true;
            if (fragmentCount > 0) {
                at = tableEnd(FRAGMENT_LIST, 16 * fragmentCount, at, first);
                first = false;
            }
            if (exported && at != BROKEN) {
                at = tableEnd(EXPORT_LIST, 8 * inodeCount, at, first);
                first = false;
            }
            if (at != BROKEN) {
                at = tableEnd(ID_LIST, 4 * idCount, at, first);
            }
            return at == used && piecesFill(inodesAt, foldersAt) && piecesFill(foldersAt, tablesAt());
        }

        /** Where a table's list ends, or BROKEN; its pieces begin just at from, the first table's not before. */
        private int tableEnd(int field, int bytes, int from, boolean first) {
            int pieces = (bytes + PIECE - 1) / PIECE;
            long told = image.eight(field);
            if (told < from || told > used - 8 * pieces) {
                return BROKEN;
            }
            int list = (int) told;
            long begin = image.eight(list);
            if (begin < from || begin > list || begin != from && !first) {
                return BROKEN;
            }
            int at = (int) begin;
            for (int k = 0; k < pieces; k++) {
                if (at == BROKEN || at > list || image.eight(list + 8 * k) != at) {
                    return BROKEN;
                }
                at = pieceEnd(at);
            }
            return at == list ? list + 8 * pieces : BROKEN;
        }

        private int pieceEnd(int at) {
            int n = image.two(at) & PIECE_AS_IS - 1;
            return n < 1 || n > PIECE ? BROKEN : at + 2 + n;
        }

        private boolean piecesFill(int from, int to) {
            int at = from;
            for (int k = 0; k < IMAGE && at >= 0 && at < to; k++) {
                at = pieceEnd(at);
            }
            return at == to;
        }

        /** Where the first table's pieces begin, which is where the directory row ends. */
        private int tablesAt() {
            return tableBegin(fragmentCount > 0 ? FRAGMENT_LIST : exported ? EXPORT_LIST : ID_LIST);
        }

        private int tableBegin(int field) {
            return (int) image.eight((int) image.eight(field));
        }

        private boolean piecesHold() {
            return inodes.pieces.load(image, inodesAt, foldersAt, unpacker)
                    && listings.pieces.load(image, foldersAt, tablesAt(), unpacker)
                    && (fragmentCount == 0 || tableHolds(fragments, FRAGMENT_LIST, 16 * fragmentCount))
                    && (!exported || tableHolds(exports, EXPORT_LIST, 8 * inodeCount))
                    && tableHolds(ids, ID_LIST, 4 * idCount);
        }

        private boolean tableHolds(PieceRow table, int field, int bytes) {
            return table.load(image, tableBegin(field), (int) image.eight(field), unpacker) && table.row.size == bytes;
        }

        private boolean fragmentsHold() {
            for (int i = 0; i < fragmentCount; i++) {
                long begin = fragments.row.eight(16 * i);
                int number = fragments.row.four(16 * i + 8);
                int bytes = number & BLOCK_AS_IS - 1;
                if (fragments.row.four(16 * i + 12) != 0 || number < 0 || number >= 2 * BLOCK_AS_IS
                        || bytes < 1 || bytes > block || begin < SUPER || begin > inodesAt - bytes) {
                    return false;
                }
            }
            return true;
        }

        private boolean exportsHold() {
            for (int number = 1; exported && number <= inodeCount; number++) {
                if (inodes.numberBy(exports.row.eight(8 * (number - 1))) != number) {
                    return false;
                }
            }
            return true;
        }

        /** Looks at what is told alone, so that no image can ask for more unpacking than that. */
        private boolean dataFits() {
            long all = (long) fragmentCount * block;
            for (int number = 1; number <= inodeCount; number++) {
                int at = inodes.placeOf(number);
                int many = inodes.kind(at) == FILE ? (int) inodes.blockCount(at) : 0;
                for (int i = 0; i < many; i++) {
                    if (inodes.blockNumber(at, i) != 0) {
                        all += inodes.blockBytes(at, i);
                    }
                }
            }
            return all <= DATA;
        }

        private boolean fragmentsUnpack() {
            for (int i = 0; i < fragmentCount; i++) {
                fragmentSizes[i] = loadFragment(i);
                if (fragmentSizes[i] < 0) {
                    return false;
                }
            }
            return true;
        }

        private boolean blocksUnpack() {
            for (int number = 1; number <= inodeCount; number++) {
                int at = inodes.placeOf(number);
                if (inodes.kind(at) == FILE && !fileUnpacks(at)) {
                    return false;
                }
            }
            return true;
        }

        private boolean fileUnpacks(int at) {
            int fragment = inodes.fragment(at);
            if (fragment != ONES && inodes.fragmentOffset(at) + inodes.rest(at) > fragmentSizes[fragment]) {
                return false;
            }
            long from = inodes.fileBegin(at);
            int many = (int) inodes.blockCount(at);
            for (int i = 0; i < many; i++) {
                int number = inodes.blockNumber(at, i);
                int bytes = number & BLOCK_AS_IS - 1;
                if (number == 0) {
                    continue;
                }
                if (from < SUPER || from > inodesAt - bytes || load((int) from, number) != inodes.blockBytes(at, i)) {
                    return false;
                }
                from += bytes;
            }
            return true;
        }

        private int placeOfBlock(int at, int block) {
            int from = (int) inodes.fileBegin(at);
            for (int i = 0; i < block; i++) {
                from += inodes.blockNumber(at, i) & BLOCK_AS_IS - 1;
            }
            return from;
        }

        private int loadFragment(int i) {
            return load((int) fragments.row.eight(16 * i), fragments.row.four(16 * i + 8));
        }

        /** Brings a block into loaded: how many bytes it has, or -1 if it is no packed row of at most a block. */
        private int load(int from, int number) {
            int bytes = number & BLOCK_AS_IS - 1;
            if (number < BLOCK_AS_IS) {
                return unpacker.unpack(image.bytes, from, bytes, loaded, 0, block);
            }
            System.arraycopy(image.bytes, from, loaded, 0, bytes);
            return bytes;
        }
    }
}
