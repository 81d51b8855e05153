import java.io.ByteArrayOutputStream;
import java.util.ArrayList;
import java.util.Arrays;
import java.util.List;

/** The whole class a second time, as plainly as the document tells it: runs of calls are held against it. */
final class PlainKit {
    private static final int BAD = FrozenVolume.BAD, NONE = FrozenVolume.NONE, THERE = FrozenVolume.THERE;
    private static final int NOT_FOLDER = FrozenVolume.NOT_FOLDER, NOT_EMPTY = FrozenVolume.NOT_EMPTY, FULL = FrozenVolume.FULL;

    byte[] tape = new byte[0];
    byte[] out = new byte[0];
    byte[] image = new byte[0];
    /** By number; null where a node is gone. */
    final List<FreezeKit.Node> nodes = new ArrayList<>();
    ReadKit mounted;
    private final FreezeKit freezing = new FreezeKit();
    private boolean fed;
    private boolean frozen;

    PlainKit() {
        nodes.add(freezing.nodes.get(0));
    }

    private static byte[] join(byte[] a, byte[] b) {
        return FreezeKit.join(a, b);
    }

    private byte[] useTape() {
        byte[] used = tape;
        tape = new byte[0];
        fed = false;
        return used;
    }

    int feed(int a, int b, int c, int d, int e) {
        if (tape.length + 20 > 16384) {
            return FULL;
        }
        ByteArrayOutputStream twenty = new ByteArrayOutputStream();
        for (int n : new int[] {a, b, c, d, e}) {
            for (int shift = 24; shift >= 0; shift -= 8) {
                twenty.write(n >>> shift);
            }
        }
        tape = join(tape, twenty.toByteArray());
        fed = true;
        return tape.length;
    }

    int end(int n) {
        if (n < 0 || n > 20 || !fed) {
            return BAD;
        }
        tape = Arrays.copyOf(tape, tape.length - 20 + n);
        fed = false;
        return tape.length;
    }

    static long word(byte[] row, int i) {
        long word = 0;
        for (long at = 8L * i + 7; at >= 8L * i; at--) {
            word = word * 256 + (at >= 0 && at < row.length ? row[(int) at] & 255 : 0);
        }
        return word;
    }

    private FreezeKit.Node node(int id) {
        return id < 0 || id >= nodes.size() ? null : nodes.get(id);
    }

    private static String text(byte[] bytes) {
        return new String(bytes, java.nio.charset.StandardCharsets.ISO_8859_1);
    }

    private int entryCount() {
        int many = 0;
        for (FreezeKit.Node node : nodes) {
            many += node == null ? 0 : node.entries.size();
        }
        return many;
    }

    private int nameBytes() {
        int many = 0;
        for (FreezeKit.Node node : nodes) {
            for (String name : node == null ? List.<String>of() : node.entries.keySet()) {
                many += name.length();
            }
        }
        return many;
    }

    private int targetBytes() {
        int many = 0;
        for (FreezeKit.Node node : nodes) {
            many += node == null || node.kind != 3 ? 0 : node.target.length;
        }
        return many;
    }

    private int fileBytes() {
        int many = 0;
        for (FreezeKit.Node node : nodes) {
            many += node == null ? 0 : node.bytes.length;
        }
        return many;
    }

    private static int depth(FreezeKit.Node folder) {
        int depth = 0;
        for (FreezeKit.Node up = folder.home; up != null; up = up.home) {
            depth++;
        }
        return depth;
    }

    int make(int directory, int kind, int number) {
        byte[] used = useTape();
        FreezeKit.Node folder = node(directory);
        if (folder == null || kind < 1 || kind > 7) {
            return BAD;
        }
        String name = text(used);
        byte[] target = new byte[0];
        if (kind == 3) {
            int zero = name.indexOf(0);
            if (zero < 0) {
                return BAD;
            }
            target = Arrays.copyOfRange(used, zero + 1, used.length);
            name = name.substring(0, zero);
            if (target.length < 1 || target.length > 4096) {
                return BAD;
            }
        }
        if (!ReadKit.isName(CheckKit.bytes(name))) {
            return BAD;
        }
        if (folder.kind != 1) {
            return NOT_FOLDER;
        }
        if (folder.entries.containsKey(name)) {
            return THERE;
        }
        if (nodes.size() == 2000 || entryCount() == 2000 || nameBytes() + name.length() > 32768
                || targetBytes() + target.length > 32768 || kind == 1 && depth(folder) == 100) {
            return FULL;
        }
        FreezeKit.Node node = new FreezeKit.Node();
        node.kind = kind;
        node.mode = kind == 1 ? 493 : 420;
        node.device = kind == 4 || kind == 5 ? number : 0;
        node.target = target;
        node.home = folder;
        node.links = 1;
        folder.entries.put(name, node);
        nodes.add(node);
        return nodes.size() - 1;
    }

    int tie(int directory, int id) {
        byte[] used = useTape();
        FreezeKit.Node folder = node(directory);
        FreezeKit.Node node = node(id);
        if (folder == null || node == null || node.kind == 1 || !ReadKit.isName(used)) {
            return BAD;
        }
        if (folder.kind != 1) {
            return NOT_FOLDER;
        }
        if (folder.entries.containsKey(text(used))) {
            return THERE;
        }
        if (entryCount() == 2000 || nameBytes() + used.length > 32768) {
            return FULL;
        }
        folder.entries.put(text(used), node);
        node.links++;
        return node.links;
    }

    int drop(int directory) {
        byte[] used = useTape();
        FreezeKit.Node folder = node(directory);
        if (folder == null || !ReadKit.isName(used)) {
            return BAD;
        }
        if (folder.kind != 1) {
            return NOT_FOLDER;
        }
        FreezeKit.Node node = folder.entries.get(text(used));
        if (node == null) {
            return NONE;
        }
        if (!node.entries.isEmpty()) {
            return NOT_EMPTY;
        }
        folder.entries.remove(text(used));
        node.links--;
        int id = nodes.indexOf(node);
        if (node.links == 0) {
            nodes.set(id, null);
        }
        return id;
    }

    private int append(FreezeKit.Node file, byte[] bytes) {
        if (fileBytes() + bytes.length > 65536) {
            return FULL;
        }
        file.bytes = join(file.bytes, bytes);
        return file.bytes.length;
    }

    int write(int id) {
        byte[] used = useTape();
        FreezeKit.Node file = node(id);
        return file == null || file.kind != 2 ? BAD : append(file, used);
    }

    int fill(int id, int b, int n) {
        FreezeKit.Node file = node(id);
        if (file == null || file.kind != 2 || b < 0 || b > 255 || n < 1 || n > 16384) {
            return BAD;
        }
        byte[] bytes = new byte[n];
        Arrays.fill(bytes, (byte) b);
        return append(file, bytes);
    }

    int own(int id, int mode, int owner, int group, int time) {
        FreezeKit.Node node = node(id);
        if (node == null || mode < 0 || mode > 4095) {
            return BAD;
        }
        node.mode = mode;
        node.owner = owner;
        node.group = group;
        node.time = time;
        return 0;
    }

    int freeze(int log, int options, int time) {
        if (log < 12 || log > 16 || options < 0 || options > 15) {
            return BAD;
        }
        freezing.nodes.clear();
        for (FreezeKit.Node node : nodes) {
            if (node != null) {
                freezing.nodes.add(node);
            }
        }
        byte[] made = freezing.freeze(log, options, time);
        if (made.length > 131072 || freezing.inodeBytes() > 65536 || freezing.folderBytes() > 65536) {
            return FULL;
        }
        image = made;
        mounted = null;
        frozen = true;
        return image.length;
    }

    /** What is frozen as the document tells it is never told otherwise than it was. */
    int astray() {
        return frozen ? 0 : NONE;
    }

    int patch(int i, int b) {
        if (i < 0 || i >= image.length) {
            return BAD;
        }
        int was = image[i] & 255;
        image = image.clone();
        image[i] = (byte) b;
        mounted = null;
        return was;
    }

    int keep(int n) {
        byte[] used = useTape();
        if (n < 0 || n > image.length) {
            return BAD;
        }
        if (n + used.length > 131072) {
            return FULL;
        }
        image = join(Arrays.copyOf(image, n), used);
        mounted = null;
        return image.length;
    }

    int mount() {
        ReadKit read = new ReadKit(image);
        mounted = read.fault == 0 ? read : null;
        return read.fault;
    }

    private int kind(int inode) {
        return mounted == null || !mounted.inodes.containsKey(inode) ? BAD : mounted.inodes.get(inode).kind;
    }

    int find(int inode) {
        byte[] used = useTape();
        return kind(inode) == BAD ? BAD : mounted.find(inode, used);
    }

    long about(int inode, int what) {
        return kind(inode) == BAD ? BAD : mounted.about(inode, what);
    }

    int entry(int inode, int i) {
        if (kind(inode) != 1) {
            return kind(inode) == BAD ? BAD : NOT_FOLDER;
        }
        ReadKit.Inode folder = mounted.inodes.get(inode);
        if (i < 0 || i >= folder.names.size()) {
            return NONE;
        }
        out = folder.names.get(i);
        return folder.children.get(i).number;
    }

    int read(int inode, long from, int n) {
        if (kind(inode) != 2 || from < 0 || n < 0 || n > 16384) {
            return BAD;
        }
        out = mounted.read(inode, from, n);
        return out.length;
    }

    int target(int inode) {
        if (kind(inode) != 3) {
            return BAD;
        }
        out = mounted.inodes.get(inode).target;
        return out.length;
    }

    long place(int inode) {
        return kind(inode) != 2 ? BAD : mounted.place(inode);
    }
}
