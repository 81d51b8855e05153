import java.io.ByteArrayOutputStream;
import java.math.BigInteger;
import java.util.ArrayList;
import java.util.Arrays;
import java.util.List;
import java.util.TreeMap;

/** A second reading of an image, sentence by sentence as the document tells it: its first fault, or its inodes. */
final class ReadKit {
    private static final BigInteger ONES = BigInteger.ONE.shiftLeft(64).subtract(BigInteger.ONE);
    private static final long ONES4 = 4294967295L;
    private static final int AS_IS = 16777216;

    /** What does not hold. */
    private static final class Fault extends RuntimeException {
        final int number;

        Fault(int number) {
            super(null, null, false, false);
            this.number = number;
        }
    }

    /** A row of bytes: its pieces as they lie in the image, and unpacked. */
    private final class Row {
        final List<Integer> heads = new ArrayList<>();
        final List<byte[]> pieces = new ArrayList<>();
        byte[] all = new byte[0];

        /** The pieces from one place just to another one, by their heads alone. */
        void walk(long from, long to) {
            long at = from;
            while (at < to) {
                need(2, at + 2 <= to);
                int n = (int) number(image, (int) at, 2) % 32768;
                need(2, n >= 1 && n <= 8192);
                heads.add((int) at);
                fields.add(new int[] {(int) at, 2});
                at += 2 + n;
            }
            need(2, at == to);
        }

        void unpack(int most) {
            ByteArrayOutputStream out = new ByteArrayOutputStream();
            for (int k = 0; k < heads.size(); k++) {
                int head = (int) number(image, heads.get(k), 2);
                byte[] piece = slice(heads.get(k) + 2, head % 32768);
                piece = head >= 32768 ? piece : UnpackKit.unpack(piece, 8192);
                need(3, piece != null && piece.length >= 1);
                need(3, piece.length == 8192 || k == heads.size() - 1);
                pieces.add(piece);
                out.writeBytes(piece);
                need(3, out.size() <= most);
            }
            all = out.toByteArray();
        }

        /** Which piece has this start; -1 if none has. */
        int withStart(long start) {
            for (int k = 0; k < heads.size(); k++) {
                if (heads.get(k) - heads.get(0) == start) {
                    return k;
                }
            }
            return -1;
        }

        /** The place in the whole row of a place in a piece; -1 if there is none. */
        int place(int piece, long inPiece) {
            return piece < 0 || inPiece >= pieces.get(piece).length ? -1 : 8192 * piece + (int) inPiece;
        }

        long startAt(int place) {
            return heads.get(place / 8192) - heads.get(0);
        }

        /** Where in the image a place of the row is, if its piece is as it is; -1 otherwise. */
        int inImage(int place) {
            int head = heads.get(place / 8192);
            return number(image, head, 2) < 32768 ? -1 : head + 2 + place % 8192;
        }
    }

    /** Reads a row's numbers one behind the other; whatever is not there is the fault. */
    private final class Cursor {
        final Row row;
        final int fault;
        int at;
        final int end;

        Cursor(Row row, int fault, int at, int end) {
            this.row = row;
            this.fault = fault;
            this.at = at;
            this.end = end;
        }

        BigInteger big(int n) {
            need(fault, at + n <= end);
            int where = row.inImage(at);
            if (where >= 0) {
                fields.add(new int[] {where, n});
            }
            BigInteger value = ReadKit.big(row.all, at, n);
            at += n;
            return value;
        }

        long number(int n) {
            return big(n).longValueExact();
        }

        byte[] bytes(long n) {
            need(fault, at + n <= end);
            byte[] bytes = Arrays.copyOfRange(row.all, at, at + (int) n);
            int where = row.inImage(at);
            if (where >= 0) {
                fields.add(new int[] {where, 1});
            }
            at += (int) n;
            return bytes;
        }
    }

    /** An inode, with all that any type of it has. */
    static final class Inode {
        int at;
        int type;
        int kind;
        int mode;
        int owner;
        int group;
        long time;
        int number;
        long links = 1;
        long start;
        long size;
        long offset;
        long parent;
        final List<long[]> indexes = new ArrayList<>();
        final List<byte[]> indexNames = new ArrayList<>();
        BigInteger begin;
        long fragment;
        final List<Long> blocks = new ArrayList<>();
        byte[] target = new byte[0];
        long device;
        final List<byte[]> names = new ArrayList<>();
        final List<Inode> children = new ArrayList<>();
        final List<Inode> parents = new ArrayList<>();
    }

    final byte[] image;
    final int fault;
    /** Where numbers of the form stand in the image, and how many bytes they have. */
    final List<int[]> fields = new ArrayList<>();
    final TreeMap<Integer, Inode> inodes = new TreeMap<>();
    Inode root;
    private int block;
    private int inodeCount;
    private int fragmentCount;
    private int idCount;
    private int used;
    private int inodesAt;
    private int foldersAt;
    private BigInteger fragmentList;
    private BigInteger exportList;
    private BigInteger idList;
    private final Row inodeRow = new Row();
    private final Row folderRow = new Row();
    private final Row fragmentRow = new Row();
    private final Row exportRow = new Row();
    private final Row idRow = new Row();
    private final TreeMap<Integer, Inode> byPlace = new TreeMap<>();
    private final List<byte[]> fragments = new ArrayList<>();

    ReadKit(byte[] image) {
        this.image = image;
        int found = 0;
        try {
            takeSuper();
            takePlaces();
            takePieces();
            takeFragments();
            takeInodes();
            takeListings();
            takeTree();
            takeData();
        } catch (Fault first) {
            found = first.number;
        }
        fault = found;
    }

    private static void need(int fault, boolean holds) {
        if (!holds) {
            throw new Fault(fault);
        }
    }

    private static BigInteger big(byte[] row, int at, int n) {
        BigInteger value = BigInteger.ZERO;
        for (int i = n - 1; i >= 0; i--) {
            value = value.shiftLeft(8).add(BigInteger.valueOf(row[at + i] & 255));
        }
        return value;
    }

    private static long number(byte[] row, int at, int n) {
        return big(row, at, n).longValueExact();
    }

    private byte[] slice(int at, int n) {
        return Arrays.copyOfRange(image, at, at + n);
    }

    private static boolean upTo(BigInteger a, BigInteger b) {
        return a.compareTo(b) <= 0;
    }

    private void takeSuper() {
        need(1, image.length >= 96);
        int[] widths = {4, 4, 4, 4, 4, 2, 2, 2, 2, 2, 2, 8, 8, 8, 8, 8, 8, 8, 8};
        BigInteger[] told = new BigInteger[widths.length];
        int at = 0;
        for (int i = 0; i < widths.length; i++) {
            told[i] = big(image, at, widths[i]);
            fields.add(new int[] {at, widths[i]});
            at += widths[i];
        }
        need(1, told[0].intValue() == 1936814952 && told[5].intValue() == 1 && told[9].intValue() == 4
                && told[10].intValue() == 0 && told[14].equals(ONES));
        int log = told[6].intValue();
        need(1, log >= 12 && log <= 16 && told[3].longValue() == 1L << log);
        need(1, (told[7].intValue() & 1024) == 0);
        need(1, told[1].longValue() >= 1 && told[1].longValue() <= 4096);
        need(1, told[8].intValue() >= 1 && told[8].intValue() <= 4096);
        need(1, told[4].longValue() <= 4096);
        need(1, upTo(told[12], BigInteger.valueOf(image.length)));
        need(1, upTo(BigInteger.valueOf(96), told[15]) && upTo(told[15], told[16]) && upTo(told[16], told[12]));
        need(1, told[17].equals(ONES) == (told[4].longValue() == 0));
        block = told[3].intValue();
        inodeCount = told[1].intValue();
        fragmentCount = told[4].intValue();
        idCount = told[8].intValue();
        used = told[12].intValue();
        inodesAt = told[15].intValue();
        foldersAt = told[16].intValue();
        idList = told[13];
        fragmentList = told[17];
        exportList = told[18];
    }

    private void takePlaces() {
        List<Row> rows = new ArrayList<>();
        List<BigInteger> lists = new ArrayList<>();
        List<Integer> sizes = new ArrayList<>();
        if (fragmentCount > 0) {
            rows.add(fragmentRow);
            lists.add(fragmentList);
            sizes.add(16 * fragmentCount);
        }
        if (!exportList.equals(ONES)) {
            rows.add(exportRow);
            lists.add(exportList);
            sizes.add(8 * inodeCount);
        }
        rows.add(idRow);
        lists.add(idList);
        sizes.add(4 * idCount);
        BigInteger end = null;
        for (int i = 0; i < rows.size(); i++) {
            int many = (sizes.get(i) + 8191) / 8192;
            BigInteger listEnd = lists.get(i).add(BigInteger.valueOf(8L * many));
            need(2, upTo(listEnd, BigInteger.valueOf(used)));
            int list = lists.get(i).intValue();
            BigInteger begin = big(image, list, 8);
            need(2, upTo(begin, BigInteger.valueOf(list)));
            if (i == 0) {
                folderRow.walk(foldersAt, begin.longValue());
            } else {
                need(2, begin.equals(end));
            }
            rows.get(i).walk(begin.longValue(), list);
            need(2, rows.get(i).heads.size() == many);
            for (int k = 0; k < many; k++) {
                need(2, big(image, list + 8 * k, 8).equals(BigInteger.valueOf(rows.get(i).heads.get(k))));
                fields.add(new int[] {list + 8 * k, 8});
            }
            end = listEnd;
        }
        need(2, end.equals(BigInteger.valueOf(used)));
        inodeRow.walk(inodesAt, foldersAt);
    }

    private void takePieces() {
        inodeRow.unpack(65536);
        folderRow.unpack(65536);
        fragmentRow.unpack(16 * fragmentCount);
        need(3, fragmentRow.all.length == 16 * fragmentCount);
        exportRow.unpack(8 * inodeCount);
        need(3, exportRow.heads.isEmpty() || exportRow.all.length == 8 * inodeCount);
        idRow.unpack(4 * idCount);
        need(3, idRow.all.length == 4 * idCount);
    }

    private void takeFragments() {
        Cursor cursor = new Cursor(fragmentRow, 4, 0, fragmentRow.all.length);
        for (int i = 0; i < fragmentCount; i++) {
            BigInteger begin = cursor.big(8);
            long told = cursor.number(4);
            need(4, cursor.number(4) == 0);
            need(4, told < 2 * AS_IS);
            need(4, told % AS_IS >= 1 && told % AS_IS <= block);
            need(4, upTo(BigInteger.valueOf(96), begin));
            need(4, upTo(begin.add(BigInteger.valueOf(told % AS_IS)), BigInteger.valueOf(inodesAt)));
        }
    }

    private void takeInodes() {
        Cursor cursor = new Cursor(inodeRow, 5, 0, inodeRow.all.length);
        for (int i = 0; i < inodeCount; i++) {
            Inode inode = new Inode();
            inode.at = cursor.at;
            takeHead(cursor, inode);
            switch (inode.type) {
                case 1: takeFolder(cursor, inode); break;
                case 8: takeLongFolder(cursor, inode); break;
                case 2: case 9: takeFile(cursor, inode); break;
                case 3: case 10: takeLink(cursor, inode); break;
                default: inode.links = cursor.number(4);
            }
            if (inode.kind == 4 || inode.kind == 5) {
                inode.device = cursor.number(4);
            }
            need(5, inode.type < 10 || cursor.number(4) == ONES4);
            inodes.put(inode.number, inode);
            byPlace.put(inode.at, inode);
        }
        need(5, cursor.at == cursor.end);
        Cursor references = new Cursor(exportRow, 5, 0, exportRow.all.length);
        for (int number = 1; references.at < references.end; number++) {
            need(5, inodeBy(references.big(8)) == inodes.get(number));
        }
    }

    private void takeHead(Cursor cursor, Inode inode) {
        inode.type = (int) cursor.number(2);
        need(5, inode.type >= 1 && inode.type <= 14);
        inode.kind = inode.type > 7 ? inode.type - 7 : inode.type;
        inode.mode = (int) cursor.number(2);
        need(5, inode.mode <= 4095);
        inode.owner = (int) cursor.number(2);
        inode.group = (int) cursor.number(2);
        need(5, inode.owner < idCount && inode.group < idCount);
        inode.time = cursor.number(4);
        long number = cursor.number(4);
        need(5, number >= 1 && number <= inodeCount && !inodes.containsKey((int) number));
        inode.number = (int) number;
    }

    private void takeFolder(Cursor cursor, Inode inode) {
        inode.start = cursor.number(4);
        inode.links = cursor.number(4);
        inode.size = cursor.number(2);
        inode.offset = cursor.number(2);
        inode.parent = cursor.number(4);
        need(5, inode.size >= 3);
    }

    private void takeLongFolder(Cursor cursor, Inode inode) {
        inode.links = cursor.number(4);
        inode.size = cursor.number(4);
        inode.start = cursor.number(4);
        inode.parent = cursor.number(4);
        int many = (int) cursor.number(2);
        inode.offset = cursor.number(2);
        need(5, cursor.number(4) == ONES4);
        need(5, inode.size >= 3);
        for (int i = 0; i < many; i++) {
            inode.indexes.add(new long[] {cursor.number(4), cursor.number(4)});
            long less = cursor.number(4);
            need(5, less <= 255);
            inode.indexNames.add(cursor.bytes(less + 1));
        }
    }

    private void takeFile(Cursor cursor, Inode inode) {
        BigInteger size;
        if (inode.type == 2) {
            inode.begin = cursor.big(4);
            inode.fragment = cursor.number(4);
            inode.offset = cursor.number(4);
            size = cursor.big(4);
        } else {
            inode.begin = cursor.big(8);
            size = cursor.big(8);
            cursor.big(8);
            inode.links = cursor.number(4);
            inode.fragment = cursor.number(4);
            inode.offset = cursor.number(4);
            need(5, cursor.number(4) == ONES4);
        }
        need(5, size.bitLength() <= 40);
        inode.size = size.longValueExact();
        long rest = inode.size % block;
        if (inode.fragment != ONES4) {
            need(5, inode.fragment < fragmentCount);
            need(5, rest > 0);
            need(5, inode.offset + rest <= block);
        }
        long many = inode.size / block + (rest > 0 && inode.fragment == ONES4 ? 1 : 0);
        for (long i = 0; i < many; i++) {
            long told = cursor.number(4);
            need(5, told < 2 * AS_IS);
            need(5, told % AS_IS <= block);
            need(5, told % AS_IS > 0 || told == 0);
            inode.blocks.add(told);
        }
    }

    private void takeLink(Cursor cursor, Inode inode) {
        inode.links = cursor.number(4);
        long n = cursor.number(4);
        need(5, n >= 1 && n <= 16384);
        inode.target = cursor.bytes(n);
    }

    /** The inode to whose first byte a reference leads; null if there is none. */
    private Inode inodeBy(BigInteger reference) {
        BigInteger start = reference.shiftRight(16);
        if (start.bitLength() > 31) {
            return null;
        }
        return byPlace.get(inodeRow.place(inodeRow.withStart(start.longValue()), reference.intValue() & 65535));
    }

    private void takeListings() {
        for (Inode folder : inodes.values()) {
            if (folder.kind == 1) {
                takeListing(folder);
            }
        }
    }

    private void takeListing(Inode folder) {
        List<Integer> heads = new ArrayList<>();
        List<byte[]> firsts = new ArrayList<>();
        int begin = 0;
        if (folder.size > 3) {
            begin = folderRow.place(folderRow.withStart(folder.start), folder.offset);
            need(6, begin >= 0);
            need(6, begin + folder.size - 3 <= folderRow.all.length);
            Cursor cursor = new Cursor(folderRow, 6, begin, begin + (int) folder.size - 3);
            while (cursor.at < cursor.end) {
                heads.add(cursor.at);
                firsts.add(takeHeader(cursor, folder));
            }
        }
        for (int i = 0; i < folder.indexes.size(); i++) {
            long place = folder.indexes.get(i)[0];
            need(6, i == 0 || place > folder.indexes.get(i - 1)[0]);
            int header = place > 65536 ? -1 : heads.indexOf(begin + (int) place);
            need(6, header > 0);
            need(6, folder.indexes.get(i)[1] == folderRow.startAt(heads.get(header)));
            need(6, Arrays.equals(folder.indexNames.get(i), firsts.get(header)));
        }
    }

    /** A header with its entries: the name of the first one. */
    private byte[] takeHeader(Cursor cursor, Inode folder) {
        long less = cursor.number(4);
        need(6, less <= 255);
        int piece = inodeRow.withStart(cursor.number(4));
        need(6, piece >= 0);
        long base = cursor.number(4);
        int first = folder.names.size();
        for (long i = 0; i <= less; i++) {
            int place = inodeRow.place(piece, cursor.number(2));
            long more = cursor.number(2);
            long kind = cursor.number(2);
            byte[] name = cursor.bytes(cursor.number(2) + 1);
            need(6, isName(name));
            if (!folder.names.isEmpty()) {
                need(6, Arrays.compareUnsigned(folder.names.get(folder.names.size() - 1), name) < 0);
            }
            Inode child = byPlace.get(place);
            need(6, child != null);
            need(6, child.number == base + (more >= 32768 ? more - 65536 : more));
            need(6, child.kind == kind);
            folder.names.add(name);
            folder.children.add(child);
            child.parents.add(folder);
        }
        return folder.names.get(first);
    }

    static boolean isName(byte[] name) {
        String text = new String(name, java.nio.charset.StandardCharsets.ISO_8859_1);
        return text.length() >= 1 && text.length() <= 256 && text.indexOf(0) < 0 && text.indexOf(47) < 0
                && !text.equals(".") && !text.equals("..");
    }

    private static long foldersIn(Inode folder) {
        return folder.children.stream().filter(child -> child.kind == 1).count();
    }

    private void takeTree() {
        root = inodeBy(big(image, 32, 8));
        need(7, root != null && root.kind == 1);
        need(7, root.parent == inodeCount + 1);
        need(7, root.parents.isEmpty());
        for (Inode inode : inodes.values()) {
            if (inode.kind == 1) {
                need(7, inode == root || inode.parents.size() == 1 && inode.parents.get(0).number == inode.parent);
                need(7, inode.links == 2 + foldersIn(inode));
            } else {
                need(7, inode.parents.size() >= 1);
                need(7, inode.links == inode.parents.size());
            }
        }
        List<Inode> reached = new ArrayList<>(List.of(root));
        List<Integer> depths = new ArrayList<>(List.of(0));
        for (int i = 0; i < reached.size(); i++) {
            need(7, depths.get(i) <= 100);
            for (Inode child : reached.get(i).children) {
                if (child.kind == 1) {
                    reached.add(child);
                    depths.add(depths.get(i) + 1);
                }
            }
        }
        need(7, reached.size() == inodes.values().stream().filter(inode -> inode.kind == 1).count());
    }

    private long bytesOfBlock(Inode file, int i) {
        return Math.min(block, file.size - (long) i * block);
    }

    private void takeData() {
        long all = (long) fragmentCount * block;
        for (Inode inode : inodes.values()) {
            for (int i = 0; i < inode.blocks.size(); i++) {
                all += inode.blocks.get(i) == 0 ? 0 : bytesOfBlock(inode, i);
            }
        }
        need(8, all <= 4194304);
        for (int i = 0; i < fragmentCount; i++) {
            byte[] bytes = bytesOf(number(fragmentRow.all, 16 * i, 8), number(fragmentRow.all, 16 * i + 8, 4));
            need(8, bytes != null);
            fragments.add(bytes);
        }
        for (Inode inode : inodes.values()) {
            if (inode.kind == 2) {
                takeBlocks(inode);
                need(8, inode.fragment == ONES4 || inode.offset + inode.size % block <= fragments.get((int) inode.fragment).length);
            }
        }
    }

    private void takeBlocks(Inode file) {
        BigInteger at = file.begin;
        for (int i = 0; i < file.blocks.size(); i++) {
            long told = file.blocks.get(i);
            if (told != 0) {
                need(8, upTo(BigInteger.valueOf(96), at));
                BigInteger end = at.add(BigInteger.valueOf(told % AS_IS));
                need(8, upTo(end, BigInteger.valueOf(inodesAt)));
                byte[] bytes = bytesOf(at.longValue(), told);
                need(8, bytes != null && bytes.length == bytesOfBlock(file, i));
                at = end;
            }
        }
    }

    private byte[] bytesOf(long at, long told) {
        byte[] bytes = slice((int) at, (int) (told % AS_IS));
        return told >= AS_IS ? bytes : UnpackKit.unpack(bytes, block);
    }

    // What is mounted.

    int find(int from, byte[] path) {
        Inode here = inodes.get(from);
        if (here.kind != 1) {
            return FrozenVolume.NOT_FOLDER;
        }
        for (String part : new String(path, java.nio.charset.StandardCharsets.ISO_8859_1).split("/")) {
            if (part.isEmpty()) {
                continue;
            }
            if (here.kind != 1) {
                return FrozenVolume.NOT_FOLDER;
            }
            Inode next = part.equals("..") ? parent(here) : null;
            for (int i = 0; i < here.names.size() && next == null; i++) {
                next = Arrays.equals(here.names.get(i), CheckKit.bytes(part)) ? here.children.get(i) : null;
            }
            if (next == null) {
                return FrozenVolume.NONE;
            }
            here = next;
        }
        return here.number;
    }

    private Inode parent(Inode folder) {
        return folder == root ? root : folder.parents.get(0);
    }

    long about(int number, int what) {
        Inode inode = inodes.get(number);
        switch (what) {
            case 0: return inode.kind;
            case 1: return inode.mode;
            case 2: return number(idRow.all, 4 * inode.owner, 4);
            case 3: return number(idRow.all, 4 * inode.group, 4);
            case 4: return inode.time;
            case 5: return inode.kind == 2 ? inode.size : inode.target.length;
            case 6: return inode.links;
            case 7: return inode.device;
            case 8: return inode.kind == 1 ? parent(inode).number : 0;
            case 9: return inode.names.size();
            case 10: return inode.blocks.size();
            case 11: return inode.type;
            default: return FrozenVolume.BAD;
        }
    }

    byte[] read(int number, long from, int n) {
        Inode file = inodes.get(number);
        ByteArrayOutputStream out = new ByteArrayOutputStream();
        for (long at = from; at < file.size && at - from < n; at++) {
            out.write(byteAt(file, at));
        }
        return out.toByteArray();
    }

    private Inode lastFile;
    private int lastBlock = -1;
    private byte[] lastBytes;

    private int byteAt(Inode file, long at) {
        int i = (int) (at / block);
        if (i >= file.blocks.size()) {
            return fragments.get((int) file.fragment)[(int) (file.offset + at % block)];
        }
        if (file.blocks.get(i) == 0) {
            return 0;
        }
        if (lastFile != file || lastBlock != i) {
            long begin = file.begin.longValue();
            for (int k = 0; k < i; k++) {
                begin += file.blocks.get(k) % AS_IS;
            }
            lastFile = file;
            lastBlock = i;
            lastBytes = bytesOf(begin, file.blocks.get(i));
        }
        return lastBytes[(int) (at % block)];
    }

    long place(int number) {
        Inode file = inodes.get(number);
        for (long told : file.blocks) {
            if (told != 0) {
                return file.begin.longValue();
            }
        }
        return file.fragment == ONES4 ? 0 : number(fragmentRow.all, 16 * (int) file.fragment, 8);
    }
}
