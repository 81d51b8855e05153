import java.util.ArrayList;
import java.util.List;
import java.util.function.ToLongFunction;

/** The sentences on answers below 0: their order, for every call, and that what is refused changes nothing but the tape. */
public final class OrderEdgeTest {
    private static final int BAD = FrozenVolume.BAD, NONE = FrozenVolume.NONE, THERE = FrozenVolume.THERE;
    private static final int NOT_FOLDER = FrozenVolume.NOT_FOLDER, NOT_EMPTY = FrozenVolume.NOT_EMPTY;
    private static final int FULL = FrozenVolume.FULL;

    public static void main(String[] args) {
        constants();
        ofMake();
        ofMakeWhenFull();
        ofMakeDeep();
        ofTie();
        ofDrop();
        ofWriteAndFill();
        ofFreeze();
        ofKeep();
        ofFind();
        ofEntry();
        refusedChangesNothing();
        fullChangesNothing();
        refusedUsesTheTape();
        calls512();
        CheckKit.finish("OrderEdgeTest");
    }

    private static void constants() {
        CheckKit.sentence(6, "public static final int BAD = -1, NONE = -2, THERE = -3, NOT_FOLDER = -4, NOT_EMPTY = -5, FULL = -6;");
        CheckKit.due("BAD", BAD, -1);
        CheckKit.due("NONE", NONE, -2);
        CheckKit.due("THERE", THERE, -3);
        CheckKit.due("NOT_FOLDER", NOT_FOLDER, -4);
        CheckKit.due("NOT_EMPTY", NOT_EMPTY, -5);
        CheckKit.due("FULL", FULL, -6);
    }

    /** Node 1 the directory d with the file 2, f; 3 the file g, 4 the link l, in the root. */
    private static FrozenVolume small() {
        FrozenVolume x = new FrozenVolume();
        CheckKit.make(x, 0, 1, "d");
        CheckKit.make(x, 1, 2, "f");
        CheckKit.make(x, 0, 2, "g");
        CheckKit.make(x, 0, 3, "l\0to");
        CheckKit.write(x, 3, CheckKit.bytes("some bytes"));
        return x;
    }

    private static void ofMake() {
        CheckKit.sentence(6, "BAD: no such node, kind, or the tape is not so; NOT_FOLDER; THERE; FULL.");
        CheckKit.due("no node and no kind", CheckKit.make(small(), 9, 9, "d"), BAD);
        CheckKit.due("no kind, in a file", CheckKit.make(small(), 3, 8, "x"), BAD);
        CheckKit.due("no kind, for what is there", CheckKit.make(small(), 0, 0, "d"), BAD);
        CheckKit.due("no name, in a file", CheckKit.make(small(), 3, 2, ""), BAD);
        CheckKit.due("no target, for what is there", CheckKit.make(small(), 0, 3, "d\0"), BAD);
        CheckKit.due("a target of 4097, for what is there", CheckKit.make(small(), 0, 3, "d\0" + "t".repeat(4097)), BAD);
        CheckKit.due("a target of 4097, in a file", CheckKit.make(small(), 3, 3, "d\0" + "t".repeat(4097)), BAD);
        CheckKit.due("in a file, under a name that is there elsewhere", CheckKit.make(small(), 3, 2, "d"), NOT_FOLDER);
        CheckKit.due("what is there", CheckKit.make(small(), 0, 2, "d"), THERE);
    }

    private static void ofMakeWhenFull() {
        CheckKit.sentence(6, "NOT_FOLDER; THERE; FULL.");
        FrozenVolume x = small();
        for (int i = 5; i < 2000; i++) {
            CheckKit.make(x, 0, 6, "p" + i);
        }
        CheckKit.due("one more", CheckKit.make(x, 0, 6, "q"), FULL);
        CheckKit.due("what is there", CheckKit.make(x, 0, 6, "p9"), THERE);
        CheckKit.due("in a file", CheckKit.make(x, 3, 6, "q"), NOT_FOLDER);
        CheckKit.due("no name", CheckKit.make(x, 0, 6, "/"), BAD);
        CheckKit.due("no node", CheckKit.make(x, 2000, 6, "q"), BAD);
        CheckKit.due("the last entry by tie", CheckKit.tie(x, 0, 3, "r"), 2);
        CheckKit.due("one more by tie", CheckKit.tie(x, 0, 3, "s"), FULL);
        CheckKit.due("tie of what is there", CheckKit.tie(x, 0, 3, "r"), THERE);
        CheckKit.due("tie in a file", CheckKit.tie(x, 3, 3, "s"), NOT_FOLDER);
        CheckKit.due("tie of a directory", CheckKit.tie(x, 0, 1, "s"), BAD);
    }

    private static void ofMakeDeep() {
        CheckKit.sentence(6, "THERE; FULL.");
        FrozenVolume x = new FrozenVolume();
        for (int i = 0; i < 100; i++) {
            CheckKit.make(x, i, 1, "d");
        }
        CheckKit.make(x, 100, 2, "f");
        CheckKit.due("a directory that is too deep", CheckKit.make(x, 100, 1, "e"), FULL);
        CheckKit.due("the same, where a file is there", CheckKit.make(x, 100, 1, "f"), THERE);
        CheckKit.due("the same, in a file", CheckKit.make(x, 101, 1, "e"), NOT_FOLDER);
        CheckKit.due("the same, without a name", CheckKit.make(x, 100, 1, ""), BAD);
    }

    private static void ofTie() {
        CheckKit.sentence(7, "BAD: no such nodes, it is a directory, or the tape is no name; NOT_FOLDER; THERE; FULL.");
        CheckKit.due("no node, in a file", CheckKit.tie(small(), 3, 9, "x"), BAD);
        CheckKit.due("a directory, in a file", CheckKit.tie(small(), 3, 1, "x"), BAD);
        CheckKit.due("no name, in a file", CheckKit.tie(small(), 3, 2, "."), BAD);
        CheckKit.due("a directory, for what is there", CheckKit.tie(small(), 0, 1, "d"), BAD);
        CheckKit.due("in a file", CheckKit.tie(small(), 3, 3, "g"), NOT_FOLDER);
        CheckKit.due("what is there", CheckKit.tie(small(), 0, 3, "d"), THERE);
    }

    private static void ofDrop() {
        CheckKit.sentence(8, "BAD: no such node, or the tape is no name; NOT_FOLDER; NONE; NOT_EMPTY: it is a directory with entries.");
        CheckKit.due("no node and no name", CheckKit.drop(small(), 9, ""), BAD);
        CheckKit.due("no name, in a file", CheckKit.drop(small(), 3, ".."), BAD);
        CheckKit.due("in a file", CheckKit.drop(small(), 3, "none"), NOT_FOLDER);
        CheckKit.due("what is not there", CheckKit.drop(small(), 1, "d"), NONE);
        CheckKit.due("a directory with entries", CheckKit.drop(small(), 0, "d"), NOT_EMPTY);
        CheckKit.due("a file", CheckKit.drop(small(), 0, "g"), 3);
    }

    private static void ofWriteAndFill() {
        CheckKit.sentence(10, "BAD: no such node, it is no file, b is not 0 .. 255, or n not 1 .. 16384; FULL.");
        FrozenVolume x = small();
        for (int i = 0; i < 4; i++) {
            x.fill(2, i, i < 3 ? 16384 : 16374);
        }
        CheckKit.due("fill one more", x.fill(2, 0, 1), FULL);
        CheckKit.due("fill with 256", x.fill(2, 256, 1), BAD);
        CheckKit.due("fill 16385", x.fill(2, 0, 16385), BAD);
        CheckKit.due("fill 0", x.fill(2, 0, 0), BAD);
        CheckKit.due("fill a link", x.fill(4, 0, 1), BAD);
        CheckKit.due("write one more", CheckKit.write(x, 2, new byte[1]), FULL);
        CheckKit.due("write to a link", CheckKit.write(x, 4, new byte[1]), BAD);
        CheckKit.due("write to the root", CheckKit.write(x, 0, new byte[1]), BAD);
    }

    private static void ofFreeze() {
        CheckKit.sentence(12, "BAD: log is not 12 .. 16, or options not 0 .. 15; FULL, and the image stays");
        FrozenVolume x = small();
        for (int i = 0; i < 8; i++) {
            CheckKit.make(x, 0, 3, "m" + i + "\0" + "t".repeat(i < 7 ? 4096 : 4000));
        }
        for (int i = 0; i < 1700; i++) {
            CheckKit.make(x, 0, 6, "p" + i);
        }
        CheckKit.due("a row that is too long", x.freeze(12, 0, 0), FULL);
        CheckKit.due("log 11", x.freeze(11, 0, 0), BAD);
        CheckKit.due("log 17", x.freeze(17, 0, 0), BAD);
        CheckKit.due("options 16", x.freeze(12, 16, 0), BAD);
        CheckKit.due("options -1", x.freeze(12, -1, 0), BAD);
    }

    private static void ofKeep() {
        CheckKit.sentence(17, "BAD: n is not 0 .. its size; FULL.");
        FrozenVolume x = new FrozenVolume();
        CheckKit.setImage(x, new byte[131072]);
        CheckKit.feed(x, "t");
        CheckKit.due("keep all, and one more", x.keep(131072), FULL);
        CheckKit.feed(x, "t");
        CheckKit.due("keep more than there is", x.keep(131073), BAD);
        CheckKit.feed(x, "t");
        CheckKit.due("keep of below none", x.keep(-1), BAD);
    }

    private static void ofFind() {
        CheckKit.sentence(19, "BAD: not mounted, or no such number; NOT_FOLDER: it, or what a part led to before another part, is no directory; NONE: a part is not there. (Part by part.)");
        FrozenVolume x = small();
        CheckKit.due("not mounted, no such number", CheckKit.find(x, 9, "x"), BAD);
        x.freeze(12, 0, 0);
        x.mount();
        // Inodes: 1 the root, 2 d, 3 g, 4 l, 5 d/f.
        CheckKit.due("no such number, a part that is not there", CheckKit.find(x, 6, "none"), BAD);
        CheckKit.due("from a file, a part that is not there", CheckKit.find(x, 3, "none"), NOT_FOLDER);
        CheckKit.due("a file first, then what is not there", CheckKit.find(x, 1, "g/none"), NOT_FOLDER);
        CheckKit.due("what is not there first, then a file", CheckKit.find(x, 1, "none/g/x"), NONE);
        CheckKit.due("a file in a directory, then another part", CheckKit.find(x, 1, "d/f/x"), NOT_FOLDER);
        CheckKit.due("what is not there in a directory", CheckKit.find(x, 1, "d/g/x"), NONE);
    }

    private static void ofEntry() {
        CheckKit.sentence(21, "BAD: not mounted, or no such number; NOT_FOLDER; NONE: there is no such entry.");
        FrozenVolume x = small();
        CheckKit.due("not mounted", x.entry(3, 9), BAD);
        x.freeze(12, 0, 0);
        x.mount();
        CheckKit.due("no such number", x.entry(6, 9), BAD);
        CheckKit.due("a file", x.entry(3, 9), NOT_FOLDER);
        CheckKit.due("a directory", x.entry(1, 9), NONE);
    }

    /** A tree, its image, which is mounted, and an out: the same for each call. */
    private static FrozenVolume ready() {
        FrozenVolume x = small();
        x.own(3, 7, 8, 9, 10);
        x.freeze(12, 8, 77);
        x.mount();
        x.read(3, 2, 4);
        return x;
    }

    /** All that later calls could tell: what is in the out, the image, and mounted, and the tree, by another freezing. */
    private static List<Object> state(FrozenVolume x) {
        List<Object> all = new ArrayList<>();
        all.add(new String(CheckKit.out(x), java.nio.charset.StandardCharsets.ISO_8859_1));
        all.add(new String(CheckKit.image(x), java.nio.charset.StandardCharsets.ISO_8859_1));
        for (int inode = 0; inode <= 6; inode++) {
            for (int what = 0; what < 12; what++) {
                all.add(x.about(inode, what));
            }
        }
        all.add(x.astray());
        all.add(CheckKit.make(x, 0, 2, "new"));
        all.add(x.fill(2, 1, 3));
        all.add(x.freeze(12, 9, 5));
        all.add(new String(CheckKit.image(x), java.nio.charset.StandardCharsets.ISO_8859_1));
        return all;
    }

    private static void refused(String what, ToLongFunction<FrozenVolume> call, long due) {
        FrozenVolume x = ready();
        CheckKit.due(what, call.applyAsLong(x), due);
        x.write(-1);
        CheckKit.due(what + ": the state behind it is as before", state(x).equals(state(ready())) ? 1 : 0, 1);
    }

    private static void refusedChangesNothing() {
        CheckKit.sentence(6, "what is refused changes nothing but the tape.");
        refused("end", x -> x.end(0), BAD);
        refused("make in no node", x -> CheckKit.make(x, 9, 2, "x"), BAD);
        refused("make of no kind", x -> CheckKit.make(x, 0, 8, "x"), BAD);
        refused("make without a name", x -> CheckKit.make(x, 0, 1, ""), BAD);
        refused("make without a target", x -> CheckKit.make(x, 0, 3, "x\0"), BAD);
        refused("make in a file", x -> CheckKit.make(x, 3, 1, "x"), NOT_FOLDER);
        refused("make what is there", x -> CheckKit.make(x, 0, 1, "g"), THERE);
        refused("make a link that is there", x -> CheckKit.make(x, 0, 3, "l\0elsewhere"), THERE);
        refused("tie no node", x -> CheckKit.tie(x, 0, 9, "x"), BAD);
        refused("tie a directory", x -> CheckKit.tie(x, 0, 1, "x"), BAD);
        refused("tie in a file", x -> CheckKit.tie(x, 3, 3, "x"), NOT_FOLDER);
        refused("tie what is there", x -> CheckKit.tie(x, 0, 3, "l"), THERE);
        refused("drop without a name", x -> CheckKit.drop(x, 0, ""), BAD);
        refused("drop in a file", x -> CheckKit.drop(x, 3, "g"), NOT_FOLDER);
        refused("drop what is not there", x -> CheckKit.drop(x, 0, "f"), NONE);
        refused("drop what is not empty", x -> CheckKit.drop(x, 0, "d"), NOT_EMPTY);
        refused("write to a link", x -> CheckKit.write(x, 4, new byte[5]), BAD);
        refused("fill with 256", x -> x.fill(3, 256, 1), BAD);
        refused("fill none", x -> x.fill(3, 1, 0), BAD);
        refused("own with 4096", x -> x.own(3, 4096, 1, 1, 1), BAD);
        refused("own no node", x -> x.own(5, 1, 1, 1, 1), BAD);
        refused("freeze with 11", x -> x.freeze(11, 0, 0), BAD);
        refused("freeze with options 16", x -> x.freeze(12, 16, 0), BAD);
        refused("patch of no byte", x -> x.patch(x.image(), 1), BAD);
        refused("patch at -1", x -> x.patch(-1, 1), BAD);
        refused("keep of too many", x -> x.keep(x.image() + 1), BAD);
        refused("keep of -1", x -> x.keep(-1), BAD);
        refused("find from no number", x -> CheckKit.find(x, 9, "d"), BAD);
        refused("find from a file", x -> CheckKit.find(x, 3, "d"), NOT_FOLDER);
        refused("find of none", x -> CheckKit.find(x, 1, "x"), NONE);
        refused("about of none", x -> x.about(1, 12), BAD);
        refused("entry of none", x -> x.entry(1, 3), NONE);
        refused("entry of a file", x -> x.entry(3, 0), NOT_FOLDER);
        refused("read from -1", x -> x.read(3, -1, 1), BAD);
        refused("read 16385", x -> x.read(3, 0, 16385), BAD);
        refused("target of a file", x -> x.target(3), BAD);
        refused("place of a link", x -> x.place(4), BAD);
    }

    /** The same, with just one byte left for files, and an image that may have no byte more. */
    private static FrozenVolume nearlyFull() {
        FrozenVolume x = ready();
        for (int i = 0; i < 4; i++) {
            x.fill(3, 1, i < 3 ? 16384 : 16384 - 11);
        }
        CheckKit.setImage(x, ImageKit.join(CheckKit.image(x), new byte[131072 - x.image()]));
        CheckKit.due("mount", x.mount(), 0);
        return x;
    }

    private static void refusedFull(String what, ToLongFunction<FrozenVolume> call) {
        FrozenVolume x = nearlyFull();
        CheckKit.due(what, call.applyAsLong(x), FULL);
        x.write(-1);
        CheckKit.due(what + ": the state behind it is as before", state(x).equals(state(nearlyFull())) ? 1 : 0, 1);
    }

    private static void fullChangesNothing() {
        CheckKit.sentence(9, "what is refused changes nothing but the tape.");
        refusedFull("fill", x -> x.fill(3, 1, 2));
        refusedFull("write", x -> CheckKit.write(x, 2, new byte[2]));
        refusedFull("keep", x -> {
            CheckKit.feed(x, "ab");
            return x.keep(131071);
        });
    }

    private static void refusedUsesTheTape() {
        CheckKit.sentence(6, "each call that reads it uses it up, whatever it answers");
        FrozenVolume x = ready();
        x.feed(0, 0, 0, 0, 0);
        CheckKit.due("make", x.make(-1, 0, 0), BAD);
        CheckKit.due("feed", x.feed(0, 0, 0, 0, 0), 20);
        CheckKit.due("tie", x.tie(-1, 0), BAD);
        CheckKit.due("feed", x.feed(0, 0, 0, 0, 0), 20);
        CheckKit.due("drop", x.drop(-1), BAD);
        CheckKit.due("feed", x.feed(0, 0, 0, 0, 0), 20);
        CheckKit.due("write", x.write(-1), BAD);
        CheckKit.due("feed", x.feed(0, 0, 0, 0, 0), 20);
        CheckKit.due("keep", x.keep(-1), BAD);
        CheckKit.due("feed", x.feed(0, 0, 0, 0, 0), 20);
        CheckKit.due("find", x.find(-1), BAD);
        CheckKit.due("feed", x.feed(0, 0, 0, 0, 0), 20);
    }

    /** Calls behind the 512th may answer what they like, but must end and not throw. */
    private static void calls512() {
        CheckKit.sentence(6, "An object is used for at most 512 calls after it has been made; what later calls answer is free.");
        FrozenVolume x = new FrozenVolume();
        for (int i = 1; i <= 510; i++) {
            x.fill(i, i, i);
        }
        x.freeze(12, 0, 0);
        CheckKit.due("the 512th call", x.mount(), 0);
        for (int i = 0; i < 600; i++) {
            x.feed(i, i, i, i, i);
            x.make(0, 2, i);
            x.freeze(12, i % 16, i);
            x.mount();
            x.read(2, i, i);
        }
    }
}
