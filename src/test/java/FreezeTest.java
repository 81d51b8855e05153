import java.util.Arrays;
import java.util.Random;

/** Promises 12 and 13: freeze, byte for byte, and astray. */
public final class FreezeTest {
    public static void main(String[] args) throws Exception {
        wrongInputs();
        rootAlone();
        everyOption();
        packedRows();
        farMatches();
        mixedParts();
        ties();
        sharedAndZeros();
        fragmentEdges();
        wideFolders();
        longNames();
        fullPieces();
        manyIds();
        longTables();
        randomTrees();
        fullRow();
        again();
        tooMuch();
        astray();
        CheckKit.finish("FreezeTest");
    }

    private static void wrongInputs() {
        FrozenVolume x = new FrozenVolume();
        CheckKit.due("freeze(11)", x.freeze(11, 0, 0), FrozenVolume.BAD);
        CheckKit.due("freeze(17)", x.freeze(17, 0, 0), FrozenVolume.BAD);
        CheckKit.due("options 16", x.freeze(12, 16, 0), FrozenVolume.BAD);
        CheckKit.due("options -1", x.freeze(12, -1, 0), FrozenVolume.BAD);
        CheckKit.due("image after refusals", x.image(), 0);
        CheckKit.due("astray after refusals", x.astray(), FrozenVolume.NONE);
    }

    private static void rootAlone() {
        for (int log = 12; log <= 16; log++) {
            for (int options = 0; options < 16; options++) {
                new FreezeKit().check("the root alone", log, options, -1);
            }
        }
    }

    private static FreezeKit smallTree() {
        FreezeKit kit = new FreezeKit();
        kit.make(0, 1, 0, "usr", "");
        kit.make(1, 1, 0, "bin", "");
        kit.make(2, 2, 0, "sh", "");
        kit.make(0, 3, 0, "bin", "usr/bin");
        kit.make(0, 1, 0, "dev", "");
        kit.make(5, 5, 1025, "tty", "");
        kit.make(5, 4, -7, "disk", "");
        kit.make(5, 6, 9, "pipe", "");
        kit.make(5, 7, 9, "log", "");
        kit.make(0, 2, 0, "empty", "");
        kit.make(0, 2, 0, "\u00ff\u0001", "");
        kit.tie(0, 3, "sh too");
        kit.tie(1, 4, "a link twice");
        kit.write(3, PackKit.sample(new Random(1), 5, 6000));
        kit.write(11, PackKit.sample(new Random(2), 5, 300));
        kit.own(3, 3565, 1000, 100, 1700000000);
        kit.own(6, 438, 100, 1000, -5);
        kit.own(0, 511, 7, 0, 3);
        return kit;
    }

    private static void everyOption() {
        FreezeKit kit = smallTree();
        for (int options = 0; options < 16; options++) {
            for (int log = 12; log <= 16; log++) {
                kit.check("a small tree", log, options, 77 + options);
            }
        }
    }

    /** The data of one file alone is a packed row, and tells of the packing byte for byte. */
    private static void packedRows() throws Exception {
        int[] sizes = {1, 2, 3, 4, 10, 11, 40, 258, 259, 600, 4095, 4096, 4097, 8192, 12000, 65535};
        for (int style = 0; style < 6; style++) {
            for (int size : sizes) {
                byte[] row = PackKit.sample(new Random(size * 7 + style), style, size);
                FreezeKit kit = new FreezeKit();
                kit.make(0, 2, 0, "f", "");
                kit.write(1, row);
                kit.check("style " + style + ", " + size + " bytes", 16, 4, 0);
                java.util.zip.Inflater inflater = new java.util.zip.Inflater();
                byte[] packed = PackKit.pack(row);
                inflater.setInput(packed);
                byte[] back = new byte[size];
                CheckKit.due("the published unpacking", inflater.inflate(back), size);
                CheckKit.due("the published unpacking", back, row);
            }
        }
    }

    private static void checkRow(String what, byte[] row) {
        FreezeKit kit = new FreezeKit();
        kit.make(0, 2, 0, "f", "");
        kit.write(1, row);
        kit.check(what, 16, 4, 0);
    }

    /** The same bytes again, just as far away as a match may be, and one byte farther. */
    private static void farMatches() {
        for (int distance = 32766; distance <= 32770; distance++) {
            byte[] row = PackKit.sample(new Random(5), 0, distance + 600);
            System.arraycopy(row, 0, row, distance, 600);
            checkRow("matches " + distance + " away", row);
        }
        byte[] row = PackKit.sample(new Random(6), 0, 4000);
        for (int k = 0; k < 20; k++) {
            // Twenty candidates, the farthest of which are the longest: too many to look at them all.
            System.arraycopy(CheckKit.bytes("abcdefghijklmnopqrstuvwxyz"), 0, row, 100 + 60 * k, 26 - k);
        }
        System.arraycopy(CheckKit.bytes("abcdefghijklmnopqrstuvwxyz"), 0, row, 3000, 26);
        checkRow("more candidates than are looked at", row);
    }

    /** Parts of all sorts behind each other, so that stored ones begin at any bit of a byte. */
    private static void mixedParts() {
        for (int seed = 0; seed < 60; seed++) {
            Random random = new Random(seed);
            byte[] row = new byte[0];
            for (int part = 0; part < 4; part++) {
                row = FreezeKit.join(row, PackKit.sample(random, part % 2 == 0 ? 1 + random.nextInt(5) : 0, 4096));
            }
            checkRow("parts of all sorts, " + seed, row);
            row = FreezeKit.join(PackKit.sample(random, 5, 4096), PackKit.sample(random, seed % 6, 1 + random.nextInt(40)));
            checkRow("a short last part, " + seed, row);
        }
    }

    /** Last parts for which two sorts take just as many bits. */
    private static void ties() {
        Random random = new Random(11);
        for (int k = 0; k < 500; k++) {
            byte[] first = new byte[4096];
            Arrays.fill(first, 0, 1 + random.nextInt(4000), (byte) random.nextInt(256));
            byte[] last = new byte[k % 2 == 0 ? 20 + random.nextInt(20) : 1 + random.nextInt(150)];
            for (int i = 0; i < last.length; i++) {
                last[i] = (byte) (k % 2 == 0 ? 144 + random.nextInt(112) : random.nextInt(2 + k / 10));
            }
            checkRow("a last part, " + k, FreezeKit.join(first, last));
        }
        CheckKit.dueMet("bits that another sort takes more than stored:", 0);
        CheckKit.dueMet("bits that made takes more than fixed:", 0);
    }

    private static void sharedAndZeros() {
        FreezeKit kit = new FreezeKit();
        for (int i = 0; i < 10; i++) {
            kit.make(0, 2, 0, "f" + i, "");
        }
        byte[] text = PackKit.sample(new Random(3), 5, 5000);
        kit.write(1, text);
        kit.fill(2, 0, 8192);
        kit.write(3, text);
        kit.fill(4, 0, 8193);
        kit.fill(5, 0, 100);
        kit.fill(6, 0, 4096);
        kit.fill(6, 1, 4096);
        kit.fill(6, 0, 4096);
        kit.fill(6, 0, 7);
        kit.write(7, text);
        kit.fill(7, 0, 1);
        kit.fill(8, 0, 8192);
        kit.tie(0, 8, "f8 again");
        for (int options = 0; options < 16; options++) {
            kit.check("files of zeros, and the same ones", 12, options, 0);
        }
    }

    private static void fragmentEdges() {
        FreezeKit kit = new FreezeKit();
        int[] rests = {2000, 2096, 1, 4095, 4095, 4096, 1, 3000, 1097, 1096};
        for (int i = 0; i < rests.length; i++) {
            kit.make(0, 2, 0, "f" + (char) ('a' + i), "");
            kit.write(i + 1, PackKit.sample(new Random(i), i % 6, rests[i]));
        }
        kit.check("rests that just fit, or do not", 12, 0, 0);
        kit.check("rests that just fit, or do not", 12, 2, 0);
        kit.check("rests in greater blocks", 14, 3, 0);
    }

    private static void wideFolders() {
        int[] sizes = {255, 256, 257, 512, 513, 1000};
        for (int size : sizes) {
            FreezeKit kit = new FreezeKit();
            kit.make(0, 1, 0, "d", "");
            for (int i = 0; i < size; i++) {
                kit.make(1, i % 5 == 0 ? 1 : 6, 0, "n" + i, "");
            }
            kit.check(size + " entries", 12, 0, 0);
            kit.check(size + " entries", 12, 1, 0);
        }
    }

    private static void longNames() {
        Random random = new Random(8);
        for (int k = 0; k < 4; k++) {
            FreezeKit kit = new FreezeKit();
            kit.make(0, 1, 0, "d", "");
            for (int i = 0; i < 110; i++) {
                String name = i + "-" + "xyz".substring(random.nextInt(3)).repeat(random.nextInt(80));
                kit.make(random.nextInt(4) == 0 ? 0 : 1, 6, 0, name, "");
            }
            kit.check("long names", 12, k & 1, 0);
            kit.check("long names", 12, 8 + (k & 1), 0);
        }
    }

    /** Inodes of 20 bytes, and entries of 16, fill pieces to the last byte; a header may begin on its last bytes. */
    private static void fullPieces() {
        for (int more = 0; more < 24; more++) {
            FreezeKit kit = new FreezeKit();
            kit.make(0, 1, 0, "d", "");
            kit.make(1, 3, 0, "target", "t".repeat(12 + more));
            kit.make(0, 1, 0, "e", "");
            kit.make(0, 6, 0, "z" + "y".repeat(more), "");
            for (int i = 0; i < 450; i++) {
                kit.make(1, 6, 0, "name" + (1000 + i) + (i == 0 ? "x".repeat(more) : ""), "");
            }
            kit.check("pieces that get full, " + more, 12, 1, 0);
        }
        FreezeKit kit = new FreezeKit();
        kit.make(0, 1, 0, "a", "");
        kit.make(0, 1, 0, "b", "");
        for (int i = 0; i < 510; i++) {
            kit.make(1, 6, 0, "name" + (1000 + i), "");
        }
        // 2 headers and 510 entries of 16 are 8184; the root's own come behind the empty directory's place.
        kit.make(1, 6, 0, "zzzzzzz", "");
        kit.check("a listing up to near a piece's end", 12, 1, 0);
    }

    private static void manyIds() {
        FreezeKit kit = new FreezeKit();
        for (int i = 0; i < 300; i++) {
            kit.make(0, 7, 0, "s" + i, "");
            kit.own(i + 1, i, i * 31, i % 3 == 0 ? i * 31 : -i, i);
        }
        for (int options = 0; options < 16; options += 5) {
            kit.check("many ids", 13, options, 0);
        }
    }

    private static void randomTrees() {
        for (int seed = 0; seed < 60; seed++) {
            Random random = new Random(seed);
            FreezeKit kit = new FreezeKit();
            int steps = 5 + random.nextInt(60);
            int left = 60000;
            for (int i = 0; i < steps; i++) {
                int folder = random.nextInt(kit.nodes.size());
                if (kit.nodes.get(folder).kind != 1) {
                    folder = 0;
                }
                int kind = 1 + random.nextInt(7);
                String name = "" + (char) (1 + random.nextInt(46)) + (char) (48 + random.nextInt(208)) + random.nextInt(30);
                int node = kit.make(folder, kind, random.nextInt(), name, "to " + name.repeat(random.nextInt(20)));
                int n = random.nextInt(5) == 0 ? random.nextInt(9000) : random.nextInt(300);
                if (node > 0 && kind == 2 && n < left) {
                    kit.write(node, PackKit.sample(random, random.nextInt(6), n));
                    left -= n;
                }
                if (node > 0 && kind > 1 && random.nextInt(6) == 0) {
                    kit.tie(folder, node, name + "'");
                }
                if (node > 0) {
                    kit.own(node, random.nextInt(4096), random.nextInt(5), random.nextInt(5), random.nextInt());
                }
            }
            kit.check("random tree " + seed, 12 + random.nextInt(5), random.nextInt(16), random.nextInt());
        }
    }

    /** More export entries, and more ids, than one piece has. */
    private static void longTables() {
        FreezeKit kit = new FreezeKit();
        for (int i = 0; i < 1100; i++) {
            kit.make(0, 6, 0, "p" + i, "");
            kit.own(i + 1, 420, 3 * i + 1, 3 * i + 2, 0);
        }
        kit.check("long tables", 12, 8, 0);
        kit.check("long tables", 12, 9, 0);
    }

    /** An inode row of 65535, 65536 and 65537 bytes. */
    private static void fullRow() {
        FreezeKit kit = new FreezeKit();
        for (int i = 0; i < 7; i++) {
            kit.make(0, 3, 0, "link" + i, "t".repeat(4096));
        }
        for (int i = 0; i < 1750; i++) {
            kit.make(0, 6, 0, "p" + i, "");
        }
        kit.freeze(12, 1, 0);
        int left = 65536 - kit.inodeBytes() - 25;
        int last = kit.make(0, 3, 0, "last", "t".repeat(left));
        kit.freeze(12, 1, 0);
        CheckKit.due("bytes of the inode row", kit.inodeBytes(), 65535);
        kit.check("a row of 65535", 12, 1, 0);
        for (int more = 1; more <= 2; more++) {
            // The same node with one byte more: its number stays that of its name.
            CheckKit.drop(kit.volume, 0, "last");
            FreezeKit.Node gone = kit.nodes.get(0).entries.remove("last");
            CheckKit.due("the link", gone == kit.nodes.get(last) ? 1 : 0, 1);
            last = kit.make(0, 3, 0, "last", "t".repeat(left + more));
            kit.check("a row of 65535 and " + more, 12, 1, 0);
            CheckKit.due("bytes of the inode row", kit.inodeBytes(), 65535 + more);
        }
    }

    /** What a freeze leaves behind counts for nothing in the next one. */
    private static void again() {
        FreezeKit kit = smallTree();
        kit.make(0, 2, 0, "many blocks", "");
        for (int i = 0; i < 12; i++) {
            kit.fill(12, i + 1, 4000);
        }
        for (int i = 0; i < 250; i++) {
            kit.check("again " + i, 12, i % 2 == 0 ? 4 : 7, i);
        }
    }

    private static void tooMuch() {
        FrozenVolume x = new FrozenVolume();
        CheckKit.make(x, 0, 2, "f");
        x.fill(1, 7, 100);
        int small = x.freeze(12, 3, 0);
        x.mount();
        for (int i = 0; i < 8; i++) {
            CheckKit.make(x, 0, 3, "l" + i + "\0" + "t".repeat(4000));
        }
        for (int i = 0; i < 1200; i++) {
            CheckKit.make(x, 0, 1, "n" + i);
        }
        CheckKit.due("an inode row that is too long", x.freeze(12, 0, 0), FrozenVolume.FULL);
        CheckKit.due("the image stays", x.image(), small);
        CheckKit.due("mounted", x.about(2, 5), 100);
        CheckKit.due("astray stays", x.astray(), 0);
        for (int i = 200; i < 1200; i++) {
            CheckKit.drop(x, 0, "n" + i);
        }
        for (int i = 0; i < 4; i++) {
            x.fill(1, 255, 16300);
        }
        int size = x.freeze(12, 3, 0);
        CheckKit.due("an image that fits", size > 96 + 65300 + 8 * 4000 && size <= 131072 ? 1 : 0, 1);
        for (int i = 0; i < 140; i++) {
            CheckKit.make(x, 0, 7, "m".repeat(200) + i);
        }
        CheckKit.due("an image that is too long", x.freeze(12, 3, 0), FrozenVolume.FULL);
        CheckKit.due("the image stays", x.image(), size);
        CheckKit.due("the same, packed", x.freeze(12, 0, 0) > 0 ? 1 : 0, 1);
        CheckKit.due("astray of it", x.astray(), 0);
    }

    private static void astray() {
        FrozenVolume x = smallTree().volume;
        CheckKit.due("astray before", x.astray(), FrozenVolume.NONE);
        x.freeze(12, 0, 0);
        CheckKit.due("astray", x.astray(), 0);
        x.own(3, 1, 1, 1, 1);
        x.fill(3, 1, 1);
        x.patch(0, 0);
        x.keep(5);
        CheckKit.due("astray is of the tree and the image then", x.astray(), 0);
        x.freeze(12, 99, 0);
        CheckKit.due("astray after a refused one", x.astray(), 0);
    }
}
