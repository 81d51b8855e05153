import java.io.ByteArrayOutputStream;
import java.util.ArrayList;
import java.util.Arrays;
import java.util.List;

/** An image put together part by part, so that a test can make any one of the parts wrong. */
final class ImageKit {
    static final long ONES = -1;

    int log = 12;
    int inodeCount = -1;
    int flags = 576;
    long root;
    final ByteArrayOutputStream data = new ByteArrayOutputStream();
    final ByteArrayOutputStream inodes = new ByteArrayOutputStream();
    final ByteArrayOutputStream folders = new ByteArrayOutputStream();
    final List<long[]> fragments = new ArrayList<>();
    final List<Long> exports = new ArrayList<>();
    int[] ids = {0};
    boolean packs;
    /** Pieces that are put instead of those of the inode row, of the directory row, of the id table. */
    byte[] inodePieces;
    byte[] folderPieces;
    byte[][] idPieces;
    /**
     * How many bytes stand between two parts where none may stand: before the directory row, the fragment table, the
     * export table, the id table, the id table's list, and the image's end.
     */
    final int[] gaps = new int[6];
    int made;
    /** Where parts begin in the image that was put together last. */
    int inodesAt;
    int foldersAt;
    int tablesAt;
    int fragmentList = -1;
    int exportList = -1;
    int idList;

    static byte[] little(int many, long n) {
        return FreezeKit.little(many, n);
    }

    static byte[] join(byte[]... parts) {
        return FreezeKit.join(parts);
    }

    /** Puts bytes behind the data: where they begin. */
    int addData(byte[] bytes) {
        int at = 96 + data.size();
        data.writeBytes(bytes);
        return at;
    }

    /** Puts an inode behind its row: its place there. */
    int addInode(int type, int number, byte[]... body) {
        int at = inodes.size();
        inodes.writeBytes(join(little(2, type), little(2, 420), little(2, 0), little(2, 0), little(4, 0), little(4, number)));
        inodes.writeBytes(join(body));
        made++;
        return at;
    }

    int addFile(int number, long begin, int fragment, int offset, long size, int... blocks) {
        return addInode(2, number, little(4, begin), little(4, fragment), little(4, offset), little(4, size), row(blocks));
    }

    int addLongFile(int number, long begin, int fragment, int offset, long size, int links, int... blocks) {
        return addInode(9, number, little(8, begin), little(8, size), little(8, 0), little(4, links),
                little(4, fragment), little(4, offset), little(4, -1), row(blocks));
    }

    int addFolder(int number, int listing, int size, int links, int parent) {
        return addInode(1, number, little(4, start(listing)), little(4, links), little(2, size + 3),
                little(2, listing % 8192), little(4, parent));
    }

    static byte[] row(int... numbers) {
        byte[] row = new byte[0];
        for (int number : numbers) {
            row = join(row, little(4, number));
        }
        return row;
    }

    /** The start of the piece with a place in a row whose pieces are as they are. */
    static int start(int place) {
        return place / 8192 * 8194;
    }

    static long reference(int place) {
        return ((long) start(place) << 16) + place % 8192;
    }

    static byte[] head(int entries, int inode, int number) {
        return join(little(4, entries - 1), little(4, start(inode)), little(4, number));
    }

    static byte[] entry(int inode, int more, int kind, String name) {
        return join(little(2, inode % 8192), little(2, more), little(2, kind), little(2, name.length() - 1),
                CheckKit.bytes(name));
    }

    /** Puts a listing behind the directory row: its place there. */
    int addListing(byte[]... parts) {
        int at = folders.size();
        folders.writeBytes(join(parts));
        return at;
    }

    private List<byte[]> pieces(byte[] row) {
        List<byte[]> pieces = new ArrayList<>();
        for (int at = 0; at < row.length; at += 8192) {
            byte[] piece = Arrays.copyOfRange(row, at, Math.min(row.length, at + 8192));
            byte[] packed = packs ? PackKit.pack(piece) : piece;
            pieces.add(packs ? join(little(2, packed.length), packed) : join(little(2, piece.length + 32768), piece));
        }
        return pieces;
    }

    private int putTable(ByteArrayOutputStream image, List<byte[]> pieces, int gap) {
        byte[] list = new byte[0];
        for (byte[] piece : pieces) {
            list = join(list, little(8, image.size()));
            image.writeBytes(piece);
        }
        image.writeBytes(new byte[gap]);
        int at = image.size();
        image.writeBytes(list);
        return at;
    }

    byte[] image() {
        ByteArrayOutputStream image = new ByteArrayOutputStream();
        image.writeBytes(new byte[96]);
        image.writeBytes(data.toByteArray());
        inodesAt = image.size();
        image.writeBytes(inodePieces != null ? inodePieces : join(pieces(inodes.toByteArray()).toArray(new byte[0][])));
        image.writeBytes(new byte[gaps[0]]);
        foldersAt = image.size();
        image.writeBytes(folderPieces != null ? folderPieces : join(pieces(folders.toByteArray()).toArray(new byte[0][])));
        image.writeBytes(new byte[gaps[1]]);
        tablesAt = image.size();
        byte[] table = new byte[0];
        for (long[] fragment : fragments) {
            table = join(table, little(8, fragment[0]), little(4, fragment[1]), little(4, fragment[2]));
        }
        fragmentList = fragments.isEmpty() ? -1 : putTable(image, pieces(table), 0);
        image.writeBytes(new byte[gaps[2]]);
        table = new byte[0];
        for (long export : exports) {
            table = join(table, little(8, export));
        }
        exportList = exports.isEmpty() ? -1 : putTable(image, pieces(table), 0);
        image.writeBytes(new byte[gaps[3]]);
        idList = putTable(image, idPieces != null ? Arrays.asList(idPieces) : pieces(row(ids)), gaps[4]);
        image.writeBytes(new byte[gaps[5]]);
        byte[] all = image.toByteArray();
        byte[] head = join(little(4, 1936814952), little(4, inodeCount < 0 ? made : inodeCount), little(4, 0),
                little(4, 1 << log), little(4, fragments.size()), little(2, 1), little(2, log), little(2, flags),
                little(2, ids.length), little(2, 4), little(2, 0), little(8, root), little(8, all.length),
                little(8, idList), little(8, ONES), little(8, inodesAt), little(8, foldersAt), little(8, fragmentList),
                little(8, exportList));
        System.arraycopy(head, 0, all, 0, 96);
        return all;
    }

    static byte[] patched(byte[] image, int at, byte[] bytes) {
        byte[] copy = image.clone();
        System.arraycopy(bytes, 0, copy, at, bytes.length);
        return copy;
    }
}
