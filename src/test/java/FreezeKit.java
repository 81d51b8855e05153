import java.io.ByteArrayOutputStream;
import java.nio.ByteBuffer;
import java.nio.ByteOrder;
import java.util.ArrayList;
import java.util.Arrays;
import java.util.LinkedHashMap;
import java.util.List;
import java.util.Map;
import java.util.TreeMap;

/** A second tree, built by the same calls as the program's, and frozen as the document tells it. */
final class FreezeKit {
    final FrozenVolume volume = new FrozenVolume();
    final List<Node> nodes = new ArrayList<>();

    static final class Node {
        int kind;
        int mode;
        int owner;
        int group;
        int time;
        int device;
        int links;
        Node home;
        byte[] bytes = new byte[0];
        byte[] target = new byte[0];
        final TreeMap<String, Node> entries = new TreeMap<>();
        int number;
        long reference = -1;
        Data data;
    }

    private static final class Data {
        long begin;
        int[] blocks;
        int fragment = -1;
        int offset;
        int zeros;
    }

    /** A row as it is put: pieces are closed as they get full. */
    private static final class Row {
        final boolean packs;
        final ByteArrayOutputStream hand = new ByteArrayOutputStream();
        final ByteArrayOutputStream closed = new ByteArrayOutputStream();
        final List<Integer> starts = new ArrayList<>();
        int total;

        Row(boolean packs) {
            this.packs = packs;
        }

        void put(byte[] bytes) {
            for (byte b : bytes) {
                hand.write(b);
                total++;
                if (hand.size() == 8192) {
                    close();
                }
            }
        }

        void close() {
            byte[] piece = hand.toByteArray();
            if (piece.length > 0) {
                starts.add(closed.size());
                byte[] packed = packs ? PackKit.pack(piece) : piece;
                CheckKit.met("bytes that packing a piece adds", packs ? packed.length - piece.length : 9999);
                boolean shorter = packed.length < piece.length;
                closed.writeBytes(little(2, shorter ? packed.length : piece.length + 32768));
                closed.writeBytes(shorter ? packed : piece);
                hand.reset();
            }
        }

        long reference() {
            return ((long) closed.size() << 16) + hand.size();
        }
    }

    FreezeKit() {
        Node root = new Node();
        root.kind = 1;
        root.mode = 493;
        nodes.add(root);
    }

    int make(int directory, int kind, int device, String name, String target) {
        int answer = CheckKit.make(volume, directory, kind, device, kind == 3 ? name + "\0" + target : name);
        Node home = nodes.get(directory);
        if (!home.entries.containsKey(name)) {
            Node node = new Node();
            node.kind = kind;
            node.mode = kind == 1 ? 493 : 420;
            node.device = device;
            node.target = CheckKit.bytes(target);
            node.home = home;
            node.links = 1;
            home.entries.put(name, node);
            nodes.add(node);
            CheckKit.due("make " + name, answer, nodes.size() - 1);
        } else {
            CheckKit.due("make " + name, answer, FrozenVolume.THERE);
        }
        return answer;
    }

    void tie(int directory, int node, String name) {
        int answer = CheckKit.tie(volume, directory, node, name);
        if (answer > 0) {
            nodes.get(directory).entries.put(name, nodes.get(node));
            nodes.get(node).links++;
            CheckKit.due("tie " + name, answer, nodes.get(node).links);
        }
    }

    void write(int node, byte[] bytes) {
        Node file = nodes.get(node);
        int size = file.bytes.length;
        int answer = CheckKit.write(volume, node, bytes);
        file.bytes = Arrays.copyOf(file.bytes, size + bytes.length);
        System.arraycopy(bytes, 0, file.bytes, size, bytes.length);
        CheckKit.due("write", answer, file.bytes.length);
    }

    void fill(int node, int b, int n) {
        Node file = nodes.get(node);
        int size = file.bytes.length;
        int answer = volume.fill(node, b, n);
        file.bytes = Arrays.copyOf(file.bytes, size + n);
        Arrays.fill(file.bytes, size, size + n, (byte) b);
        CheckKit.due("fill", answer, file.bytes.length);
    }

    void own(int node, int mode, int owner, int group, int time) {
        Node one = nodes.get(node);
        one.mode = mode;
        one.owner = owner;
        one.group = group;
        one.time = time;
        CheckKit.due("own", volume.own(node, mode, owner, group, time), 0);
    }

    /** Freezes both trees, and holds the images against each other. */
    void check(String what, int log, int options, int time) {
        byte[] want = freeze(log, options, time);
        String call = what + ": freeze(" + log + ", " + options + ")";
        if (inodes.total > 65536 || folders.total > 65536 || want.length > 131072) {
            CheckKit.due(call, volume.freeze(log, options, time), FrozenVolume.FULL);
            return;
        }
        CheckKit.due(call, volume.freeze(log, options, time), want.length);
        CheckKit.due(call, CheckKit.image(volume), want);
        CheckKit.due(call + ", astray", volume.astray(), 0);
        CheckKit.due(call + ", mount", volume.mount(), 0);
    }

    private List<Node> order;
    private List<Integer> ids;
    private ByteArrayOutputStream image;
    private ByteArrayOutputStream hand;
    private List<long[]> fragments;
    private Row inodes;
    private Row folders;

    byte[] freeze(int log, int options, int time) {
        int block = 1 << log;
        boolean packs = (options & 1) == 0;
        number();
        image = new ByteArrayOutputStream();
        image.writeBytes(new byte[96]);
        putData(block, (options & 2) == 0, (options & 4) == 0);
        inodes = new Row(packs);
        folders = new Row(packs);
        done(nodes.get(0));
        CheckKit.met("bytes of the inode row", inodes.total);
        CheckKit.met("bytes of the directory row", folders.total);
        inodes.close();
        folders.close();
        int inodesAt = image.size();
        image.writeBytes(inodes.closed.toByteArray());
        int foldersAt = image.size();
        image.writeBytes(folders.closed.toByteArray());
        Row table = new Row(packs);
        for (long[] fragment : fragments) {
            table.put(join(little(8, fragment[0]), little(4, fragment[1]), little(4, 0)));
        }
        long fragmentList = fragments.isEmpty() ? -1 : putTable(table);
        table = new Row(packs);
        for (Node node : order) {
            table.put(little(8, node.reference));
        }
        long exportList = (options & 8) == 0 ? -1 : putTable(table);
        table = new Row(packs);
        for (int id : ids) {
            table.put(little(4, id));
        }
        long idList = putTable(table);
        int flags = 64 + 512 + ((options & 8) != 0 ? 128 : 0) + ((options & 1) != 0 ? 2049 : 0)
                + ((options & 2) != 0 ? 10 : 0) + ((options & 4) != 0 ? 16 : 0);
        byte[] all = image.toByteArray();
        byte[] head = join(little(4, 1936814952), little(4, order.size()), little(4, time), little(4, block),
                little(4, fragments.size()), little(2, 1), little(2, log), little(2, flags), little(2, ids.size()),
                little(2, 4), little(2, 0), little(8, order.get(0).reference), little(8, all.length), little(8, idList),
                little(8, -1), little(8, inodesAt), little(8, foldersAt), little(8, fragmentList), little(8, exportList));
        System.arraycopy(head, 0, all, 0, 96);
        CheckKit.met("bytes of the image", all.length);
        CheckKit.met("fragments", fragments.size());
        return all;
    }

    private long putTable(Row table) {
        table.close();
        int begin = image.size();
        image.writeBytes(table.closed.toByteArray());
        int list = image.size();
        for (int start : table.starts) {
            image.writeBytes(little(8, begin + start));
        }
        return list;
    }

    private void number() {
        order = new ArrayList<>();
        ids = new ArrayList<>();
        for (Node node : nodes) {
            node.number = 0;
            node.reference = -1;
        }
        give(nodes.get(0));
        for (int i = 0; i < order.size(); i++) {
            for (Node node : order.get(i).entries.values()) {
                give(node);
            }
        }
        for (Node node : order) {
            for (int id : new int[] {node.owner, node.group}) {
                if (!ids.contains(id)) {
                    ids.add(id);
                }
            }
        }
    }

    private void give(Node node) {
        if (node.number == 0) {
            order.add(node);
            node.number = order.size();
        }
    }

    /** How many bytes the inode row had, unpacked. */
    int inodeBytes() {
        return inodes.total;
    }

    /** How many bytes the directory row had, unpacked. */
    int folderBytes() {
        return folders.total;
    }

    private void putData(int block, boolean packs, boolean fragmented) {
        Map<String, Data> known = new LinkedHashMap<>();
        fragments = new ArrayList<>();
        hand = new ByteArrayOutputStream();
        for (Node file : order) {
            if (file.kind == 2) {
                String key = new String(file.bytes, java.nio.charset.StandardCharsets.ISO_8859_1);
                file.data = known.get(key);
                if (file.data == null) {
                    file.data = putFile(file.bytes, block, packs, fragmented);
                    known.put(key, file.data);
                }
            }
        }
        if (hand.size() > 0) {
            closeFragment(packs);
        }
    }

    private Data putFile(byte[] bytes, int block, boolean packs, boolean fragmented) {
        Data data = new Data();
        int rest = bytes.length % block;
        int many = bytes.length / block + (rest > 0 && !fragmented ? 1 : 0);
        data.blocks = new int[many];
        data.begin = many > 0 ? image.size() : 0;
        for (int i = 0; i < many; i++) {
            byte[] one = Arrays.copyOfRange(bytes, i * block, Math.min(bytes.length, (i + 1) * block));
            boolean zeros = Arrays.equals(one, new byte[one.length]);
            data.blocks[i] = zeros ? 0 : putBlock(one, packs);
            data.zeros += zeros ? one.length : 0;
        }
        if (rest > 0 && fragmented) {
            CheckKit.met("bytes of a fragment and a rest", hand.size() + rest);
            if (hand.size() + rest > block) {
                closeFragment(packs);
            }
            data.fragment = fragments.size();
            data.offset = hand.size();
            hand.write(bytes, bytes.length - rest, rest);
        }
        return data;
    }

    private int putBlock(byte[] bytes, boolean packs) {
        byte[] packed = packs ? PackKit.pack(bytes) : bytes;
        CheckKit.met("bytes that packing a block adds", packs ? packed.length - bytes.length : 9999);
        boolean shorter = packed.length < bytes.length;
        image.writeBytes(shorter ? packed : bytes);
        return shorter ? packed.length : bytes.length + 16777216;
    }

    private void closeFragment(boolean packs) {
        long begin = image.size();
        fragments.add(new long[] {begin, putBlock(hand.toByteArray(), packs)});
        hand.reset();
    }

    private void done(Node folder) {
        for (Node node : folder.entries.values()) {
            if (node.kind == 1) {
                done(node);
            }
        }
        for (Node node : folder.entries.values()) {
            if (node.reference < 0) {
                putOther(node);
            }
        }
        long begin = folders.reference();
        int from = folders.total;
        CheckKit.met(folder.entries.isEmpty() ? "an empty directory at place" : "a listing at place", folders.hand.size());
        List<byte[]> indexes = putListing(folder);
        int size = folders.total - from + 3;
        int links = 2;
        for (Node node : folder.entries.values()) {
            links += node.kind == 1 ? 1 : 0;
        }
        int parent = folder.home == null ? order.size() + 1 : folder.home.number;
        if (indexes.isEmpty() && size <= 65535) {
            putInode(folder, 1, little(4, begin >> 16), little(4, links), little(2, size), little(2, begin & 65535),
                    little(4, parent));
        } else {
            putInode(folder, 8, little(4, links), little(4, size), little(4, begin >> 16), little(4, parent),
                    little(2, indexes.size()), little(2, begin & 65535), little(4, -1),
                    join(indexes.toArray(new byte[0][])));
        }
    }

    private void putOther(Node node) {
        if (node.kind == 3) {
            putInode(node, 3, little(4, node.links), little(4, node.target.length), node.target);
        } else if (node.kind == 4 || node.kind == 5) {
            putInode(node, node.kind, little(4, node.links), little(4, node.device));
        } else if (node.kind > 5) {
            putInode(node, node.kind, little(4, node.links));
        } else {
            Data data = node.data;
            ByteArrayOutputStream blocks = new ByteArrayOutputStream();
            for (int number : data.blocks) {
                blocks.writeBytes(little(4, number));
            }
            if (node.links > 1 || data.zeros > 0) {
                putInode(node, 9, little(8, data.begin), little(8, node.bytes.length), little(8, data.zeros),
                        little(4, node.links), little(4, data.fragment), little(4, data.offset), little(4, -1),
                        blocks.toByteArray());
            } else {
                putInode(node, 2, little(4, data.begin), little(4, data.fragment), little(4, data.offset),
                        little(4, node.bytes.length), blocks.toByteArray());
            }
        }
    }

    private void putInode(Node node, int type, byte[]... body) {
        node.reference = inodes.reference();
        CheckKit.met("an inode at place", inodes.hand.size());
        inodes.put(join(little(2, type), little(2, node.mode), little(2, ids.indexOf(node.owner)),
                little(2, ids.indexOf(node.group)), little(4, node.time), little(4, node.number)));
        inodes.put(join(body));
    }

    /** Cuts the entries in headers first, and then puts header by header: the indexes. */
    private List<byte[]> putListing(Node folder) {
        List<List<Map.Entry<String, Node>>> heads = new ArrayList<>();
        List<Integer> places = new ArrayList<>();
        int at = folders.total;
        for (Map.Entry<String, Node> entry : folder.entries.entrySet()) {
            List<Map.Entry<String, Node>> last = heads.isEmpty() ? null : heads.get(heads.size() - 1);
            if (last != null) {
                CheckKit.met("an entry behind another at place", at % 8192);
                CheckKit.met("entries of the header before an entry", last.size());
            }
            if (last == null || last.size() == 256
                    || last.get(0).getValue().reference >> 16 != entry.getValue().reference >> 16
                    || at / 8192 != places.get(places.size() - 1) / 8192) {
                last = new ArrayList<>();
                heads.add(last);
                places.add(at);
                CheckKit.met("a header at place", at % 8192);
                at += 12;
            }
            last.add(entry);
            at += 8 + entry.getKey().length();
        }
        List<byte[]> indexes = new ArrayList<>();
        int begin = folders.total;
        for (int i = 0; i < heads.size(); i++) {
            Node leader = heads.get(i).get(0).getValue();
            String name = heads.get(i).get(0).getKey();
            if (i > 0 && places.get(i) / 8192 != places.get(i - 1) / 8192) {
                indexes.add(join(little(4, places.get(i) - begin), little(4, folders.closed.size()),
                        little(4, name.length() - 1), CheckKit.bytes(name)));
            }
            ByteArrayOutputStream told = new ByteArrayOutputStream();
            told.writeBytes(join(little(4, heads.get(i).size() - 1), little(4, leader.reference >> 16),
                    little(4, leader.number)));
            for (Map.Entry<String, Node> entry : heads.get(i)) {
                Node node = entry.getValue();
                told.writeBytes(join(little(2, node.reference & 65535), little(2, node.number - leader.number),
                        little(2, node.kind), little(2, entry.getKey().length() - 1), CheckKit.bytes(entry.getKey())));
            }
            folders.put(told.toByteArray());
        }
        return indexes;
    }

    static byte[] little(int many, long n) {
        return Arrays.copyOf(ByteBuffer.allocate(8).order(ByteOrder.LITTLE_ENDIAN).putLong(n).array(), many);
    }

    static byte[] join(byte[]... parts) {
        ByteArrayOutputStream all = new ByteArrayOutputStream();
        for (byte[] part : parts) {
            all.writeBytes(part);
        }
        return all.toByteArray();
    }
}
