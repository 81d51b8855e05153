import java.util.Arrays;
import java.util.Random;

/** Promises 19 to 24: find, about, entry, read, target, place. */
public final class LookTest {
    private static final int BAD = FrozenVolume.BAD, NONE = FrozenVolume.NONE, NOT_FOLDER = FrozenVolume.NOT_FOLDER;

    public static void main(String[] args) {
        FrozenVolume x = tree();
        notMounted(x);
        x.freeze(12, 0, 0);
        x.mount();
        finding(x);
        about(x);
        entries(x);
        targets(x);
        reading();
        places();
        otherRoot();
        sparse();
        CheckKit.finish("LookTest");
    }

    /** Inodes: 1 the root, 2 a, 3 dev, 4 file, 5 link, 6 a/b, 7 a/file, 8 dev/tty, 9 a/b/c. */
    private static FrozenVolume tree() {
        FrozenVolume x = new FrozenVolume();
        CheckKit.make(x, 0, 1, "a");
        CheckKit.make(x, 1, 1, "b");
        CheckKit.make(x, 2, 1, "c");
        CheckKit.make(x, 0, 2, "file");
        CheckKit.make(x, 1, 2, "file");
        CheckKit.make(x, 0, 3, "link\0a/b");
        CheckKit.make(x, 0, 1, "dev");
        CheckKit.make(x, 7, 5, -2, "tty");
        CheckKit.tie(x, 2, 4, "tied");
        CheckKit.write(x, 4, CheckKit.bytes("hello"));
        x.own(4, 4095, -1, 77, -7);
        return x;
    }

    private static void notMounted(FrozenVolume x) {
        CheckKit.due("find", CheckKit.find(x, 1, ""), BAD);
        CheckKit.due("about", x.about(1, 0), BAD);
        CheckKit.due("entry", x.entry(1, 0), BAD);
        CheckKit.due("read", x.read(4, 0, 1), BAD);
        CheckKit.due("target", x.target(5), BAD);
        CheckKit.due("place", x.place(4), BAD);
    }

    private static void finding(FrozenVolume x) {
        String[] paths = {"", "/", "///", "a", "/a/", "a//b", "a/b/c", "a/b/c/..", "a/b/c/../..", "..", "../..", "../a/..",
            "file", "file/", "a/b/tied", "link", "dev/tty", "a/file", "a/b/c/../../file"};
        int[] inodes = {1, 1, 1, 2, 2, 6, 9, 6, 2, 1, 1, 1, 4, 4, 4, 5, 8, 7, 7};
        for (int i = 0; i < paths.length; i++) {
            CheckKit.due("find " + paths[i], CheckKit.find(x, 1, paths[i]), inodes[i]);
        }
        String[] none = {"b", ".", "a/.", "./a", "aa", "A", "a/c", "fil", "file2", "...", "a\0", "x".repeat(300), "a/../b", "tied"};
        for (String path : none) {
            CheckKit.due("find " + path, CheckKit.find(x, 1, path), NONE);
        }
        CheckKit.due("find beyond a file", CheckKit.find(x, 1, "file/x"), NOT_FOLDER);
        CheckKit.due("find above a file", CheckKit.find(x, 1, "file/.."), NOT_FOLDER);
        CheckKit.due("find beyond a link", CheckKit.find(x, 1, "link/c"), NOT_FOLDER);
        CheckKit.due("find beyond a device", CheckKit.find(x, 1, "dev//tty//x"), NOT_FOLDER);
        CheckKit.due("find what is not there before a file", CheckKit.find(x, 1, "none/file/x"), NONE);
        CheckKit.due("find from another directory", CheckKit.find(x, 6, "c"), 9);
        CheckKit.due("find above it", CheckKit.find(x, 6, "../../file"), 4);
        CheckKit.due("find from a directory, without parts", CheckKit.find(x, 6, ""), 6);
        CheckKit.due("find from a file, without parts", CheckKit.find(x, 4, ""), NOT_FOLDER);
        CheckKit.due("find from a file", CheckKit.find(x, 4, "x"), NOT_FOLDER);
        CheckKit.due("find from 0", CheckKit.find(x, 0, ""), BAD);
        CheckKit.due("find from 10", CheckKit.find(x, 10, ""), BAD);
        CheckKit.due("find from -1", CheckKit.find(x, -1, "a"), BAD);
        CheckKit.due("find without a tape", x.find(2), 2);
    }

    private static void about(FrozenVolume x) {
        long[][] due = {
            {1, 493, 0, 0, 0, 0, 4, 0, 1, 4, 0, 1},
            {1, 493, 0, 0, 0, 0, 3, 0, 1, 2, 0, 1},
            {1, 493, 0, 0, 0, 0, 2, 0, 1, 1, 0, 1},
            {2, 4095, 4294967295L, 77, 4294967289L, 5, 2, 0, 0, 0, 0, 9},
            {3, 420, 0, 0, 0, 3, 1, 0, 0, 0, 0, 3},
            {1, 493, 0, 0, 0, 0, 3, 0, 2, 2, 0, 1},
            {2, 420, 0, 0, 0, 0, 1, 0, 0, 0, 0, 2},
            {5, 420, 0, 0, 0, 0, 1, 4294967294L, 0, 0, 0, 5},
            {1, 493, 0, 0, 0, 0, 2, 0, 6, 0, 0, 1},
        };
        for (int inode = 1; inode <= due.length; inode++) {
            for (int what = 0; what < 12; what++) {
                CheckKit.due("about(" + inode + ", " + what + ")", x.about(inode, what), due[inode - 1][what]);
            }
            CheckKit.due("about(" + inode + ", 12)", x.about(inode, 12), BAD);
            CheckKit.due("about(" + inode + ", -1)", x.about(inode, -1), BAD);
        }
        CheckKit.due("about(0, 0)", x.about(0, 0), BAD);
        CheckKit.due("about(10, 0)", x.about(10, 0), BAD);
        CheckKit.due("about(-1, 0)", x.about(-1, 0), BAD);
        CheckKit.due("about(the greatest, 0)", x.about(Integer.MAX_VALUE, 0), BAD);
    }

    private static void entries(FrozenVolume x) {
        String[] names = {"a", "dev", "file", "link"};
        for (int i = 0; i < names.length; i++) {
            CheckKit.due("entry " + i, x.entry(1, i), i + 2);
            CheckKit.due("entry's name", CheckKit.out(x), CheckKit.bytes(names[i]));
        }
        CheckKit.due("entry 4", x.entry(1, 4), NONE);
        CheckKit.due("entry -1", x.entry(1, -1), NONE);
        CheckKit.due("entry of the greatest", x.entry(1, Integer.MAX_VALUE), NONE);
        CheckKit.due("entry of an empty directory", x.entry(9, 0), NONE);
        CheckKit.due("entry of a file", x.entry(4, 0), NOT_FOLDER);
        CheckKit.due("entry of a file, -1", x.entry(4, -1), NOT_FOLDER);
        CheckKit.due("entry of 0", x.entry(0, 0), BAD);
        CheckKit.due("entry of 10", x.entry(10, 0), BAD);
        CheckKit.due("refusals leave the out", CheckKit.out(x), CheckKit.bytes("link"));
        CheckKit.due("an entry with another name", x.entry(6, 1), 4);
        CheckKit.due("its name", CheckKit.out(x), CheckKit.bytes("tied"));
        FrozenVolume wide = new FrozenVolume();
        for (int i = 0; i < 700; i++) {
            CheckKit.make(wide, 0, 6, "n" + (1000 + i) + "x".repeat(i % 30));
        }
        wide.freeze(12, 0, 0);
        wide.mount();
        CheckKit.due("entries of many headers", wide.about(1, 9), 700);
        CheckKit.due("an extended directory", wide.about(1, 11), 8);
        for (int i = 0; i < 700; i += 9) {
            CheckKit.due("entry " + i, wide.entry(1, i), i + 2);
            CheckKit.due("its name", CheckKit.out(wide), CheckKit.bytes("n" + (1000 + i) + "x".repeat(i % 30)));
            CheckKit.due("find it", CheckKit.find(wide, 1, "n" + (1000 + i) + "x".repeat(i % 30)), i + 2);
        }
    }

    private static void targets(FrozenVolume x) {
        CheckKit.due("target", x.target(5), 3);
        CheckKit.due("its bytes", CheckKit.out(x), CheckKit.bytes("a/b"));
        CheckKit.due("target of a file", x.target(4), BAD);
        CheckKit.due("target of the root", x.target(1), BAD);
        CheckKit.due("target of 0", x.target(0), BAD);
        CheckKit.due("target of 10", x.target(10), BAD);
        CheckKit.due("refusals leave the out", x.out(), 3);
        ImageKit kit = new ImageKit();
        byte[] longest = PackKit.sample(new Random(1), 5, 16384);
        int at = kit.addInode(10, 2, ImageKit.little(4, 1), ImageKit.little(4, 16384), longest, ImageKit.little(4, -1));
        int told = kit.addListing(ImageKit.head(1, at, 2), ImageKit.entry(at, 0, 3, "l"));
        kit.root = ImageKit.reference(kit.addFolder(1, told, kit.folders.size(), 2, 3));
        FrozenVolume y = new FrozenVolume();
        CheckKit.setImage(y, kit.image());
        CheckKit.due("mount", y.mount(), 0);
        CheckKit.due("the longest target", y.target(2), 16384);
        CheckKit.due("its bytes", CheckKit.out(y), longest);
        CheckKit.due("its size", y.about(2, 5), 16384);
    }

    private static void reading() {
        for (int options = 0; options < 8; options++) {
            for (int log = 12; log <= 16; log += 2) {
                FrozenVolume x = new FrozenVolume();
                CheckKit.make(x, 0, 2, "f");
                CheckKit.make(x, 0, 2, "g");
                byte[] bytes = PackKit.sample(new Random(log), options % 6, 30000);
                Arrays.fill(bytes, 8192, 16384, (byte) 0);
                CheckKit.write(x, 1, CheckKit.bytes("a rest before"));
                CheckKit.write(x, 2, bytes);
                x.freeze(log, options, 0);
                CheckKit.due("mount", x.mount(), 0);
                int[] froms = {0, 1, 4090, 4096, 8000, 8192, 16383, 16384, 20000, 28672, 29990, 29999, 30000, 30001, 40000};
                int[] sizes = {0, 1, 20, 4096, 9000, 16384};
                for (int from : froms) {
                    for (int n : sizes) {
                        int many = Math.max(0, Math.min(n, 30000 - from));
                        CheckKit.due("read(" + from + ", " + n + ")", x.read(3, from, n), many);
                        CheckKit.due("its bytes", CheckKit.out(x), many == 0 ? new byte[0] : Arrays.copyOfRange(bytes, from, from + many));
                    }
                }
                CheckKit.due("read from -1", x.read(3, -1, 1), BAD);
                CheckKit.due("read from the least", x.read(3, Long.MIN_VALUE, 1), BAD);
                CheckKit.due("read -1", x.read(3, 0, -1), BAD);
                CheckKit.due("read 16385", x.read(3, 0, 16385), BAD);
                CheckKit.due("read the root", x.read(1, 0, 1), BAD);
                CheckKit.due("read 0", x.read(0, 0, 1), BAD);
                CheckKit.due("read 4", x.read(4, 0, 1), BAD);
                CheckKit.due("read from the greatest", x.read(3, Long.MAX_VALUE, 16384), 0);
                CheckKit.due("an empty out", x.out(), 0);
                CheckKit.due("read the other", x.read(2, 2, 4), 4);
                CheckKit.due("its bytes", CheckKit.out(x), CheckKit.bytes("rest"));
            }
        }
    }

    private static void places() {
        FrozenVolume x = new FrozenVolume();
        for (String name : new String[] {"a", "b", "c", "d", "e", "f"}) {
            CheckKit.make(x, 0, 2, name);
        }
        x.fill(1, 1, 5000);
        x.fill(2, 0, 4096);
        x.fill(2, 2, 4096);
        x.fill(3, 3, 10);
        x.fill(4, 0, 8192);
        x.fill(6, 0, 4097);
        CheckKit.make(x, 0, 6, "g");
        x.freeze(12, 3, 0);
        x.mount();
        CheckKit.due("place of the first block", x.place(2), 96);
        CheckKit.due("place behind one of zeros", x.place(3), 96 + 4096);
        CheckKit.due("place of a fragment", x.place(4), 96 + 8192);
        CheckKit.due("place of zeros alone", x.place(5), 0);
        CheckKit.due("place of an empty file", x.place(6), 0);
        CheckKit.due("place of zeros and a rest", x.place(7), 96 + 8192);
        CheckKit.due("place of a pipe", x.place(8), BAD);
        CheckKit.due("place of the root", x.place(1), BAD);
        CheckKit.due("place of 0", x.place(0), BAD);
        CheckKit.due("place of 9", x.place(9), BAD);
        CheckKit.due("block numbers", x.about(2, 10), 1);
        CheckKit.due("block numbers", x.about(3, 10), 2);
        CheckKit.due("block numbers", x.about(4, 10), 0);
        x.freeze(12, 7, 0);
        x.mount();
        CheckKit.due("place without fragments", x.place(4), 96 + 5000 + 4096);
        CheckKit.due("block numbers without fragments", x.about(4, 10), 1);
    }

    /** The root need not have the number 1. */
    private static void otherRoot() {
        ImageKit kit = new ImageKit();
        int inner = kit.addFolder(1, 0, 0, 2, 2);
        int told = kit.addListing(ImageKit.head(1, inner, 1), ImageKit.entry(inner, 0, 1, "d"));
        kit.root = ImageKit.reference(kit.addFolder(2, told, kit.folders.size(), 3, 3));
        FrozenVolume x = new FrozenVolume();
        CheckKit.setImage(x, kit.image());
        CheckKit.due("mount", x.mount(), 0);
        CheckKit.due("the root's parent is itself", x.about(2, 8), 2);
        CheckKit.due("the other's is the root", x.about(1, 8), 2);
        CheckKit.due("above the root", CheckKit.find(x, 2, "../.."), 2);
        CheckKit.due("from the other", CheckKit.find(x, 1, "../d"), 1);
    }

    /** A file of zeros may be far longer than any image. */
    private static void sparse() {
        ImageKit kit = new ImageKit();
        kit.log = 16;
        int blocks = 16000;
        long size = 65536L * blocks;
        int at = kit.addLongFile(2, -1, -1, 0, size, 1, new int[blocks]);
        int told = kit.addListing(ImageKit.head(1, at, 2), ImageKit.entry(at, 0, 2, "f"));
        kit.root = ImageKit.reference(kit.addFolder(1, told, kit.folders.size(), 2, 3));
        kit.packs = false;
        FrozenVolume x = new FrozenVolume();
        CheckKit.setImage(x, kit.image());
        CheckKit.due("mount", x.mount(), 0);
        CheckKit.due("size", x.about(2, 5), size);
        CheckKit.due("block numbers", x.about(2, 10), blocks);
        CheckKit.due("read at the end", x.read(2, size - 5, 16384), 5);
        CheckKit.due("zeros", x.outWord(0), 0);
        CheckKit.due("read beyond", x.read(2, size, 1), 0);
        CheckKit.due("place", x.place(2), 0);
    }
}
