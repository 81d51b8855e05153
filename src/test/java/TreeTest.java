/** Promises 6 to 11: make, tie, drop, write, fill, own. */
public final class TreeTest {
    private static final int BAD = FrozenVolume.BAD, NONE = FrozenVolume.NONE, THERE = FrozenVolume.THERE;
    private static final int NOT_FOLDER = FrozenVolume.NOT_FOLDER, NOT_EMPTY = FrozenVolume.NOT_EMPTY;
    private static final int FULL = FrozenVolume.FULL;

    public static void main(String[] args) {
        making();
        makingLinks();
        names();
        manyNodes();
        manyNames();
        manyTargets();
        deep();
        tying();
        dropping();
        goneForGood();
        writing();
        filling();
        owning();
        CheckKit.finish("TreeTest");
    }

    private static void making() {
        FrozenVolume x = new FrozenVolume();
        for (int kind = 1; kind <= 7; kind++) {
            CheckKit.due("make kind " + kind, CheckKit.make(x, 0, kind, 70 + kind, "n" + kind + (kind == 3 ? "\0t" : "")), kind);
        }
        CheckKit.due("make kind 0", CheckKit.make(x, 0, 0, "k"), BAD);
        CheckKit.due("make kind 8", CheckKit.make(x, 0, 8, "k"), BAD);
        CheckKit.due("make kind -1", CheckKit.make(x, 0, -1, "k"), BAD);
        CheckKit.due("make in node 8, which is not there", CheckKit.make(x, 8, 2, "k"), BAD);
        CheckKit.due("make in node -1", CheckKit.make(x, -1, 2, "k"), BAD);
        CheckKit.due("make in the greatest node", CheckKit.make(x, Integer.MAX_VALUE, 2, "k"), BAD);
        CheckKit.due("make in a file", CheckKit.make(x, 2, 2, "k"), NOT_FOLDER);
        CheckKit.due("make in a file, without a name", CheckKit.make(x, 2, 2, ""), BAD);
        CheckKit.due("make what is there", CheckKit.make(x, 0, 1, "n2"), THERE);
        CheckKit.due("make in a directory", CheckKit.make(x, 1, 2, "n2"), 8);
        x.freeze(12, 0, 0);
        x.mount();
        CheckKit.due("a device's number", x.about(CheckKit.find(x, 1, "n4"), 7), 74);
        CheckKit.due("another's", x.about(CheckKit.find(x, 1, "n5"), 7), 75);
        CheckKit.due("a pipe's, which counts for nothing", x.about(CheckKit.find(x, 1, "n6"), 7), 0);
        CheckKit.due("a directory's mode", x.about(CheckKit.find(x, 1, "n1"), 1), 493);
        CheckKit.due("a socket's mode", x.about(CheckKit.find(x, 1, "n7"), 1), 420);
        CheckKit.due("owner at first", x.about(CheckKit.find(x, 1, "n7"), 2), 0);
    }

    private static void makingLinks() {
        FrozenVolume x = new FrozenVolume();
        CheckKit.due("link without a byte 0", CheckKit.make(x, 0, 3, "link"), BAD);
        CheckKit.due("link without a target", CheckKit.make(x, 0, 3, "link\0"), BAD);
        CheckKit.due("link without a name", CheckKit.make(x, 0, 3, "\0target"), BAD);
        CheckKit.due("link with a bad name", CheckKit.make(x, 0, 3, "a/b\0target"), BAD);
        CheckKit.due("link of 4097", CheckKit.make(x, 0, 3, "link\0" + "t".repeat(4097)), BAD);
        CheckKit.due("link of 4096", CheckKit.make(x, 0, 3, "link\0" + "t".repeat(4096)), 1);
        CheckKit.due("link of 1", CheckKit.make(x, 0, 3, "one\0/"), 2);
        CheckKit.due("link with zeros in its target", CheckKit.make(x, 0, 3, "zero\0a\0b\0"), 3);
        CheckKit.due("link with a name of 256", CheckKit.make(x, 0, 3, "n".repeat(256) + "\0t"), 4);
        CheckKit.due("link with a name of 257", CheckKit.make(x, 0, 3, "m".repeat(257) + "\0t"), BAD);
        x.freeze(12, 0, 0);
        x.mount();
        CheckKit.due("target", x.target(CheckKit.find(x, 1, "zero")), 4);
        CheckKit.due("target's bytes", CheckKit.out(x), CheckKit.bytes("a\0b\0"));
    }

    private static void names() {
        FrozenVolume x = new FrozenVolume();
        String[] bad = {"", ".", "..", "/", "a/b", "a\0", "\0", "x".repeat(257)};
        for (String name : bad) {
            CheckKit.due("make under a bad name of " + name.length(), CheckKit.make(x, 0, 2, name), BAD);
            CheckKit.due("tie under a bad name of " + name.length(), CheckKit.tie(x, 0, 1, name), BAD);
            CheckKit.due("drop of a bad name of " + name.length(), CheckKit.drop(x, 0, name), BAD);
        }
        String[] good = {"...", ". ", ".a", "a.", "x".repeat(256), "\u00ff", "\u0001", "..a"};
        for (int i = 0; i < good.length; i++) {
            CheckKit.due("make under a good name", CheckKit.make(x, 0, 2, good[i]), i + 1);
        }
    }

    private static void manyNodes() {
        FrozenVolume x = new FrozenVolume();
        for (int i = 1; i < 2000; i++) {
            CheckKit.due("make " + i, CheckKit.make(x, 0, 2, "n" + i), i);
        }
        CheckKit.due("make 2000", CheckKit.make(x, 0, 2, "n2000"), FULL);
        CheckKit.due("own 1999", x.own(1999, 420, 0, 0, 0), 0);
        CheckKit.due("own 2000", x.own(2000, 420, 0, 0, 0), BAD);
        CheckKit.due("make what is there, though full", CheckKit.make(x, 0, 2, "n5"), THERE);
        CheckKit.due("tie 2000", CheckKit.tie(x, 0, 1, "t"), 2);
        CheckKit.due("tie 2001", CheckKit.tie(x, 0, 1, "u"), FULL);
        CheckKit.due("drop makes room for an entry", CheckKit.drop(x, 0, "n7"), 7);
        CheckKit.due("tie then", CheckKit.tie(x, 0, 1, "u"), 3);
        CheckKit.drop(x, 0, "n8");
        CheckKit.due("but not for a node", CheckKit.make(x, 0, 2, "v"), FULL);
        CheckKit.due("a gone number is given to no other", x.own(8, 0, 0, 0, 0), BAD);
        x.freeze(12, 0, 0);
        CheckKit.due("astray of many", x.astray(), 0);
    }

    private static void manyNames() {
        FrozenVolume x = new FrozenVolume();
        for (int i = 0; i < 128; i++) {
            CheckKit.due("name of 256", CheckKit.make(x, 0, 6, "n".repeat(253) + (100 + i)), i + 1);
        }
        CheckKit.due("one byte more", CheckKit.make(x, 0, 6, "m"), FULL);
        CheckKit.due("one byte more by tie", CheckKit.tie(x, 0, 1, "m"), FULL);
        CheckKit.due("drop", CheckKit.drop(x, 0, "n".repeat(253) + 100), 1);
        CheckKit.due("as much again", CheckKit.tie(x, 0, 2, "m".repeat(256)), 2);
        CheckKit.due("and no more", CheckKit.make(x, 0, 6, "k"), FULL);
    }

    private static void manyTargets() {
        FrozenVolume x = new FrozenVolume();
        for (int i = 0; i < 8; i++) {
            CheckKit.due("target of 4096", CheckKit.make(x, 0, 3, i + "\0" + "t".repeat(4096)), i + 1);
        }
        CheckKit.due("one byte more", CheckKit.make(x, 0, 3, "m\0t"), FULL);
        CheckKit.due("a file, which has none", CheckKit.make(x, 0, 2, "f"), 9);
        CheckKit.due("one more entry for a link", CheckKit.tie(x, 0, 1, "m"), 2);
        CheckKit.due("drop of one of both", CheckKit.drop(x, 0, "m"), 1);
        CheckKit.due("leaves the target", CheckKit.make(x, 0, 3, "m\0t"), FULL);
        CheckKit.due("drop of the last", CheckKit.drop(x, 0, "0"), 1);
        CheckKit.due("frees it", CheckKit.make(x, 0, 3, "m\0" + "t".repeat(4096)), 10);
    }

    private static void deep() {
        FrozenVolume x = new FrozenVolume();
        for (int i = 0; i < 100; i++) {
            CheckKit.due("directory " + (i + 1) + " deep", CheckKit.make(x, i, 1, "d"), i + 1);
        }
        CheckKit.due("directory 101 deep", CheckKit.make(x, 100, 1, "d"), FULL);
        CheckKit.due("a file there", CheckKit.make(x, 100, 2, "f"), 101);
        CheckKit.due("a directory beside", CheckKit.make(x, 99, 1, "e"), 102);
        x.freeze(12, 0, 0);
        CheckKit.due("astray of a deep one", x.astray(), 0);
        CheckKit.due("mount of a deep one", x.mount(), 0);
    }

    private static void tying() {
        FrozenVolume x = new FrozenVolume();
        CheckKit.make(x, 0, 1, "d");
        CheckKit.make(x, 0, 2, "f");
        CheckKit.due("tie", CheckKit.tie(x, 1, 2, "g"), 2);
        CheckKit.due("tie once more", CheckKit.tie(x, 0, 2, "h"), 3);
        CheckKit.due("tie what is there", CheckKit.tie(x, 0, 2, "d"), THERE);
        CheckKit.due("tie a directory", CheckKit.tie(x, 0, 1, "k"), BAD);
        CheckKit.due("tie the root", CheckKit.tie(x, 1, 0, "k"), BAD);
        CheckKit.due("tie no node", CheckKit.tie(x, 0, 3, "k"), BAD);
        CheckKit.due("tie node -1", CheckKit.tie(x, 0, -1, "k"), BAD);
        CheckKit.due("tie in no node", CheckKit.tie(x, 3, 2, "k"), BAD);
        CheckKit.due("tie in a file", CheckKit.tie(x, 2, 2, "k"), NOT_FOLDER);
        CheckKit.due("tie a directory in a file", CheckKit.tie(x, 2, 1, "k"), BAD);
        x.freeze(12, 0, 0);
        x.mount();
        CheckKit.due("the same node", CheckKit.find(x, 1, "d/g"), CheckKit.find(x, 1, "h"));
        CheckKit.due("its links", x.about(CheckKit.find(x, 1, "f"), 6), 3);
    }

    private static void dropping() {
        FrozenVolume x = new FrozenVolume();
        CheckKit.make(x, 0, 1, "d");
        CheckKit.make(x, 1, 2, "f");
        CheckKit.due("drop in no node", CheckKit.drop(x, 9, "d"), BAD);
        CheckKit.due("drop in a file", CheckKit.drop(x, 2, "d"), NOT_FOLDER);
        CheckKit.due("drop what is not there", CheckKit.drop(x, 0, "f"), NONE);
        CheckKit.due("drop a beginning", CheckKit.drop(x, 0, "dd"), NONE);
        CheckKit.due("drop what has entries", CheckKit.drop(x, 0, "d"), NOT_EMPTY);
        CheckKit.due("drop a file", CheckKit.drop(x, 1, "f"), 2);
        CheckKit.due("drop it again", CheckKit.drop(x, 1, "f"), NONE);
        CheckKit.due("drop an empty directory", CheckKit.drop(x, 0, "d"), 1);
        CheckKit.due("it is gone", CheckKit.make(x, 1, 2, "f"), BAD);
        CheckKit.due("the next number", CheckKit.make(x, 0, 2, "f"), 3);
    }

    private static void goneForGood() {
        FrozenVolume x = new FrozenVolume();
        CheckKit.make(x, 0, 2, "a");
        CheckKit.make(x, 0, 2, "b");
        CheckKit.make(x, 0, 2, "c");
        CheckKit.write(x, 1, CheckKit.bytes("first"));
        CheckKit.write(x, 2, CheckKit.bytes("second"));
        CheckKit.write(x, 3, CheckKit.bytes("third"));
        CheckKit.write(x, 1, CheckKit.bytes(" and more"));
        CheckKit.tie(x, 0, 2, "bb");
        CheckKit.due("one of two entries goes", CheckKit.drop(x, 0, "b"), 2);
        CheckKit.due("the node stays", x.write(2), 6);
        CheckKit.due("the other goes", CheckKit.drop(x, 0, "bb"), 2);
        CheckKit.due("the node is gone", x.write(2), BAD);
        CheckKit.write(x, 1, CheckKit.bytes("!"));
        x.fill(1, 63, 3);
        x.freeze(12, 0, 0);
        x.mount();
        x.read(CheckKit.find(x, 1, "a"), 0, 100);
        CheckKit.due("bytes before the gone ones", CheckKit.out(x), CheckKit.bytes("first and more!???"));
        x.read(CheckKit.find(x, 1, "c"), 0, 100);
        CheckKit.due("bytes behind the gone ones", CheckKit.out(x), CheckKit.bytes("third"));
    }

    private static void writing() {
        FrozenVolume x = new FrozenVolume();
        CheckKit.make(x, 0, 2, "f");
        CheckKit.make(x, 0, 7, "s");
        CheckKit.due("write nothing", x.write(1), 0);
        CheckKit.due("write", CheckKit.write(x, 1, CheckKit.bytes("abc")), 3);
        CheckKit.due("write more", CheckKit.write(x, 1, new byte[30]), 33);
        CheckKit.due("write a socket", CheckKit.write(x, 2, new byte[3]), BAD);
        CheckKit.due("write the root", CheckKit.write(x, 0, new byte[3]), BAD);
        CheckKit.due("write no node", CheckKit.write(x, 3, new byte[3]), BAD);
        for (int i = 1; i <= 4; i++) {
            x.fill(1, 1, 16375);
        }
        CheckKit.due("write one too many", CheckKit.write(x, 1, new byte[4]), FULL);
        CheckKit.due("write the last ones", CheckKit.write(x, 1, new byte[3]), 65536);
        CheckKit.due("write nothing more", x.write(1), 65536);
        CheckKit.due("write one more", CheckKit.write(x, 1, new byte[1]), FULL);
    }

    private static void filling() {
        FrozenVolume x = new FrozenVolume();
        CheckKit.make(x, 0, 2, "f");
        CheckKit.make(x, 0, 2, "g");
        CheckKit.due("fill", x.fill(1, 255, 1), 1);
        CheckKit.due("fill the most", x.fill(1, 0, 16384), 16385);
        CheckKit.due("fill none", x.fill(1, 0, 0), BAD);
        CheckKit.due("fill below none", x.fill(1, 0, -1), BAD);
        CheckKit.due("fill too many", x.fill(1, 0, 16385), BAD);
        CheckKit.due("fill 256", x.fill(1, 256, 1), BAD);
        CheckKit.due("fill -1", x.fill(1, -1, 1), BAD);
        CheckKit.due("fill the root", x.fill(0, 0, 1), BAD);
        CheckKit.due("fill no node", x.fill(3, 0, 1), BAD);
        x.fill(2, 7, 16384);
        x.fill(2, 7, 16384);
        CheckKit.due("fill beyond", x.fill(1, 0, 16384), FULL);
        CheckKit.due("fill up", x.fill(1, 9, 16383), 32768);
        CheckKit.due("fill one more", x.fill(2, 0, 1), FULL);
        CheckKit.drop(x, 0, "g");
        CheckKit.due("what is gone makes room", x.fill(1, 0, 16384), 49152);
        x.freeze(16, 0, 0);
        x.mount();
        x.read(2, 0, 3);
        CheckKit.due("filled bytes", x.outWord(0), 255);
        x.read(2, 16384, 3);
        CheckKit.due("filled bytes behind", x.outWord(0), 0x090900);
    }

    private static void owning() {
        FrozenVolume x = new FrozenVolume();
        CheckKit.make(x, 0, 2, "f");
        CheckKit.due("own", x.own(1, 4095, -1, 7, -2), 0);
        CheckKit.due("own the root", x.own(0, 0, 5, 6, 7), 0);
        CheckKit.due("own with mode 4096", x.own(1, 4096, 0, 0, 0), BAD);
        CheckKit.due("own with mode -1", x.own(1, -1, 0, 0, 0), BAD);
        CheckKit.due("own no node", x.own(2, 0, 0, 0, 0), BAD);
        CheckKit.due("own node -1", x.own(-1, 0, 0, 0, 0), BAD);
        x.freeze(12, 0, 0);
        x.mount();
        long[] root = {1, 0, 5, 6, 7};
        long[] file = {2, 4095, 4294967295L, 7, 4294967294L};
        for (int what = 0; what < 5; what++) {
            CheckKit.due("the root's " + what, x.about(1, what), root[what]);
            CheckKit.due("the file's " + what, x.about(2, what), file[what]);
        }
    }
}
