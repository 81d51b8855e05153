/** The edges of promises 6 to 11, and of what the terms say of the tree, each sentence by itself. */
public final class TreeEdgeTest {
    private static final int BAD = FrozenVolume.BAD, NONE = FrozenVolume.NONE, THERE = FrozenVolume.THERE;
    private static final int NOT_FOLDER = FrozenVolume.NOT_FOLDER, NOT_EMPTY = FrozenVolume.NOT_EMPTY;
    private static final int FULL = FrozenVolume.FULL;
    private static final int LEAST = Integer.MIN_VALUE, GREATEST = Integer.MAX_VALUE;

    public static void main(String[] args) {
        kinds();
        rootIsThereAtFirst();
        nodesAtMost();
        modesAtFirst();
        nameLengths();
        nameBytes();
        nameDots();
        namesTwice();
        namesInOrder();
        linksTape();
        targetLengths();
        deviceNumbers();
        makeIn();
        makeInNoDirectory();
        entriesAtMost();
        nameBytesAtMost();
        targetBytesAtMost();
        deepAtMost();
        tieCounts();
        tieNoNodes();
        tieDirectories();
        tieThere();
        dropAnswers();
        dropNames();
        dropNotEmpty();
        goneNode();
        goneBytes();
        goneTarget();
        goneNumber();
        writeFiles();
        writeBehind();
        fillBehind();
        bytesAtMost();
        fillBytes();
        fillCounts();
        fillAtMost();
        fillLeavesTheTape();
        ownModes();
        ownNodes();
        ownNumbers();
        CheckKit.finish("TreeEdgeTest");
    }

    private static FrozenVolume mounted(FrozenVolume x) {
        x.freeze(12, 0, 0);
        CheckKit.due("mount", x.mount(), 0);
        return x;
    }

    /** Node 1 a directory, 2 a file, 3 a link, 4 and 5 devices, 6 a pipe, 7 a socket, each under its own number. */
    private static FrozenVolume withAll() {
        FrozenVolume x = new FrozenVolume();
        for (int kind = 1; kind <= 7; kind++) {
            CheckKit.make(x, 0, kind, 5, kind == 3 ? "3\0to" : "" + kind);
        }
        return x;
    }

    private static void kinds() {
        CheckKit.sentence(6, "KINDS: 1 directory, 2 file, 3 link, 4 and 5 devices of blocks and of characters, 6 pipe, 7 socket.");
        for (int kind : new int[] {LEAST, -1, 0, 8, 9, 257, GREATEST}) {
            CheckKit.due("kind " + kind, CheckKit.make(new FrozenVolume(), 0, kind, "n\0t"), BAD);
            CheckKit.due("kind " + kind, CheckKit.make(new FrozenVolume(), 0, kind, "n"), BAD);
        }
        FrozenVolume x = mounted(withAll());
        for (int kind = 1; kind <= 7; kind++) {
            CheckKit.due("kind " + kind, x.about(kind + 1, 0), kind);
        }
    }

    private static void rootIsThereAtFirst() {
        CheckKit.sentence(6, "node 0, the ROOT, is there at first.");
        CheckKit.due("make in -1", CheckKit.make(new FrozenVolume(), -1, 2, "n"), BAD);
        CheckKit.due("make in 0", CheckKit.make(new FrozenVolume(), 0, 2, "n"), 1);
        CheckKit.due("make in 1", CheckKit.make(new FrozenVolume(), 1, 2, "n"), BAD);
    }

    /** So many nodes take more calls than are promised. */
    private static void nodesAtMost() {
        CheckKit.sentence(6, "NODES are numbered from 0 as they are made, 2000 at most ever");
        FrozenVolume x = new FrozenVolume();
        for (int i = 1; i < 1999; i++) {
            CheckKit.make(x, 0, 6, "n" + i);
        }
        CheckKit.due("the 1999th after the root is dropped", CheckKit.drop(x, 0, "n5"), 5);
        CheckKit.due("the 2000th node", CheckKit.make(x, 0, 6, "a"), 1999);
        CheckKit.due("the 2001st node", CheckKit.make(x, 0, 6, "b"), FULL);
        CheckKit.due("drop", CheckKit.drop(x, 0, "a"), 1999);
        CheckKit.due("the 2001st node ever", CheckKit.make(x, 0, 6, "b"), FULL);
        CheckKit.due("a directory", CheckKit.make(x, 0, 1, "b"), FULL);
        CheckKit.due("node 1998", x.own(1998, 0, 0, 0, 0), 0);
        CheckKit.due("node 2000", x.own(2000, 0, 0, 0, 0), BAD);
    }

    private static void modesAtFirst() {
        CheckKit.sentence(6, "A node has a MODE, 0 .. 4095 (at first 493 for a directory, 420 for others), an OWNER, a GROUP and a TIME (u4, at first 0)");
        FrozenVolume x = mounted(withAll());
        for (int inode = 1; inode <= 8; inode++) {
            CheckKit.due("mode of " + inode, x.about(inode, 1), inode <= 2 ? 493 : 420);
            CheckKit.due("owner of " + inode, x.about(inode, 2), 0);
            CheckKit.due("group of " + inode, x.about(inode, 3), 0);
            CheckKit.due("time of " + inode, x.about(inode, 4), 0);
        }
    }

    private static void nameLengths() {
        CheckKit.sentence(6, "names are 1 to 256 bytes");
        for (int n : new int[] {0, 1, 2, 255, 256, 257, 258, 513}) {
            boolean is = n >= 1 && n <= 256;
            String name = "n".repeat(n);
            FrozenVolume x = new FrozenVolume();
            CheckKit.due("make under a name of " + n, CheckKit.make(x, 0, 2, name), is ? 1 : BAD);
            x = withAll();
            CheckKit.due("make a link under a name of " + n, CheckKit.make(x, 0, 3, name + "\0t"), is ? 8 : BAD);
            x = withAll();
            CheckKit.due("tie under a name of " + n, CheckKit.tie(x, 0, 2, name), is ? 2 : BAD);
            CheckKit.due("drop of a name of " + n, CheckKit.drop(x, 0, name), is ? 2 : BAD);
            CheckKit.due("drop again", CheckKit.drop(x, 0, name), is ? NONE : BAD);
        }
    }

    private static void nameBytes() {
        CheckKit.sentence(6, "names are 1 to 256 bytes, none of them 0 or 47");
        for (int b : new int[] {0, 1, 46, 47, 48, 127, 128, 254, 255}) {
            boolean is = b != 0 && b != 47;
            String[] names = {"" + (char) b + "xy", "x" + (char) b + "y", "xy" + (char) b, "n".repeat(255) + (char) b, (char) b + "n".repeat(255)};
            for (String name : names) {
                FrozenVolume x = withAll();
                CheckKit.due("make with a byte " + b, CheckKit.make(x, 0, 2, name), is ? 8 : BAD);
                x = withAll();
                CheckKit.due("tie with a byte " + b, CheckKit.tie(x, 0, 2, name), is ? 2 : BAD);
                CheckKit.due("drop with a byte " + b, CheckKit.drop(x, 0, name), is ? 2 : BAD);
            }
            if (b != 46) {
                CheckKit.due("make under a byte " + b + " alone", CheckKit.make(new FrozenVolume(), 0, 2, "" + (char) b), is ? 1 : BAD);
            }
        }
    }

    private static void nameDots() {
        CheckKit.sentence(6, "not just 46 or 46 46");
        String[] names = {".", "..", "...", "....", ".-", "-.", "./", ".\0", "..-", "-..", ".-.", "-", "--"};
        for (String name : names) {
            boolean is = name.length() > 2 || name.equals(".-") || name.equals("-.") || name.startsWith("-");
            FrozenVolume x = withAll();
            CheckKit.due("make under " + name, CheckKit.make(x, 0, 2, name), is ? 8 : BAD);
            x = withAll();
            CheckKit.due("tie under " + name, CheckKit.tie(x, 0, 2, name), is ? 2 : BAD);
            CheckKit.due("drop of " + name, CheckKit.drop(x, 0, name), is ? 2 : BAD);
            x = withAll();
            CheckKit.due("a link under " + name, CheckKit.make(x, 0, 3, name + "\0t"), is ? 8 : BAD);
        }
    }

    private static void namesTwice() {
        CheckKit.sentence(6, "no two the same in a directory");
        for (int kind = 1; kind <= 7; kind++) {
            FrozenVolume x = withAll();
            String tape = kind == 3 ? "1\0t" : "1";
            CheckKit.due("make what is there", CheckKit.make(x, 0, kind, tape), THERE);
            CheckKit.due("make it in another directory", CheckKit.make(x, 1, kind, tape), 8);
            CheckKit.due("a longer one", CheckKit.make(x, 0, 2, "11"), 9);
            CheckKit.due("drop", CheckKit.drop(x, 0, "2"), 2);
            CheckKit.due("make what is there no more", CheckKit.make(x, 0, 2, "2"), 10);
        }
    }

    private static void namesInOrder() {
        CheckKit.sentence(12, "IN ORDER they are by their bytes (without sign; a beginning of another one before it).");
        String[] names = {"\u0001", "\u0001\u0001", "-", ".-", "...", "0", "a", "a\u0001", "a-", "aa", "a\u007f", "a\u0080", "a\u00ff", "b", "\u007f", "\u0080",
            "\u00ff", "\u00ff\u0001", "\u00ff\u00ff"};
        FrozenVolume x = new FrozenVolume();
        for (int i = 0; i < names.length; i++) {
            // 7 and the number of names have no common divisor: each one is made once, not in order.
            CheckKit.make(x, 0, 6, names[i * 7 % names.length]);
        }
        mounted(x);
        for (int i = 0; i < names.length; i++) {
            CheckKit.due("entry " + i, x.entry(1, i), i + 2);
            CheckKit.due("its name", CheckKit.out(x), CheckKit.bytes(names[i]));
        }
        CheckKit.due("no other entry", x.entry(1, names.length), NONE);
    }

    private static void linksTape() {
        CheckKit.sentence(6, "(a link: the name, a byte 0, and all behind it as the target)");
        CheckKit.due("no byte 0", CheckKit.make(new FrozenVolume(), 0, 3, "name"), BAD);
        CheckKit.due("an empty tape", CheckKit.make(new FrozenVolume(), 0, 3, ""), BAD);
        CheckKit.due("a byte 0 alone", CheckKit.make(new FrozenVolume(), 0, 3, "\0"), BAD);
        CheckKit.due("no name", CheckKit.make(new FrozenVolume(), 0, 3, "\0t"), BAD);
        CheckKit.due("no target", CheckKit.make(new FrozenVolume(), 0, 3, "n\0"), BAD);
        CheckKit.due("a file with a byte 0", CheckKit.make(new FrozenVolume(), 0, 2, "n\0t"), BAD);
        FrozenVolume x = new FrozenVolume();
        CheckKit.due("the shortest", CheckKit.make(x, 0, 3, "n\0t"), 1);
        CheckKit.due("bytes 0 and 47 in the target", CheckKit.make(x, 0, 3, "o\0\0/.\0"), 2);
        CheckKit.due("256 bytes before the 0", CheckKit.make(x, 0, 3, "p".repeat(256) + "\0t"), 3);
        CheckKit.due("257 bytes before the 0", CheckKit.make(x, 0, 3, "q".repeat(257) + "\0t"), BAD);
        mounted(x);
        CheckKit.due("target", x.target(3), 4);
        CheckKit.due("its bytes", CheckKit.out(x), CheckKit.bytes("\0/.\0"));
    }

    private static void targetLengths() {
        CheckKit.sentence(6, "a link a TARGET of 1 to 4096 bytes");
        for (int n : new int[] {0, 1, 2, 4095, 4096, 4097, 8192}) {
            FrozenVolume x = new FrozenVolume();
            boolean is = n >= 1 && n <= 4096;
            CheckKit.due("a target of " + n, CheckKit.make(x, 0, 3, "l\0" + "t".repeat(n)), is ? 1 : BAD);
            mounted(x);
            CheckKit.due("its bytes", x.about(2, 5), is ? n : BAD);
        }
    }

    private static void deviceNumbers() {
        CheckKit.sentence(6, "a device's number (of other kinds it counts for nothing)");
        for (int number : new int[] {0, 1, -1, LEAST, GREATEST}) {
            FrozenVolume x = new FrozenVolume();
            for (int kind = 1; kind <= 7; kind++) {
                CheckKit.make(x, 0, kind, number, kind == 3 ? "3\0t" : "" + kind);
            }
            mounted(x);
            for (int kind = 1; kind <= 7; kind++) {
                CheckKit.due("number of kind " + kind, x.about(kind + 1, 7), kind == 4 || kind == 5 ? number & 4294967295L : 0);
            }
        }
    }

    private static void makeIn() {
        CheckKit.sentence(6, "BAD: no such node, kind, or the tape is not so; NOT_FOLDER; THERE; FULL.");
        for (int node : new int[] {LEAST, -1, 8, 9, 2000, GREATEST}) {
            CheckKit.due("make in " + node, CheckKit.make(withAll(), node, 2, "n"), BAD);
        }
        FrozenVolume x = withAll();
        CheckKit.drop(x, 0, "1");
        CheckKit.due("make in what is gone", CheckKit.make(x, 1, 2, "n"), BAD);
        CheckKit.due("a bad kind in a file", CheckKit.make(x, 2, 0, "n"), BAD);
        CheckKit.due("a bad name in a file", CheckKit.make(x, 2, 2, "/"), BAD);
        CheckKit.due("a link without a target in a file", CheckKit.make(x, 2, 3, "n\0"), BAD);
    }

    private static void makeInNoDirectory() {
        CheckKit.sentence(6, "A new node of a kind, in a directory, under the tape's name");
        for (int node = 0; node <= 7; node++) {
            FrozenVolume x = withAll();
            CheckKit.due("make in a node of kind " + node, CheckKit.make(x, node, 2, "n"), node <= 1 ? 8 : NOT_FOLDER);
            CheckKit.due("make in the root then", CheckKit.make(x, 0, 2, "m"), node <= 1 ? 9 : 8);
        }
    }

    private static void entriesAtMost() {
        CheckKit.sentence(7, "Entries, 2000 at most");
        FrozenVolume x = new FrozenVolume();
        CheckKit.make(x, 0, 6, "n");
        for (int i = 2; i < 1999; i++) {
            CheckKit.tie(x, 0, 1, "n" + i);
        }
        CheckKit.due("the 1999th", CheckKit.tie(x, 0, 1, "a"), 1999);
        CheckKit.due("the 2000th", CheckKit.tie(x, 0, 1, "b"), 2000);
        CheckKit.due("the 2001st by tie", CheckKit.tie(x, 0, 1, "c"), FULL);
        CheckKit.due("the 2001st by make", CheckKit.make(x, 0, 2, "c"), FULL);
        CheckKit.due("one that is there", CheckKit.tie(x, 0, 1, "b"), THERE);
        CheckKit.due("drop", CheckKit.drop(x, 0, "b"), 1);
        CheckKit.due("the 2000th by make", CheckKit.make(x, 0, 2, "c"), 2);
        CheckKit.due("the 2001st", CheckKit.make(x, 0, 2, "d"), FULL);
    }

    private static FrozenVolume withNames(int bytes) {
        FrozenVolume x = new FrozenVolume();
        int left = bytes;
        for (int i = 100; left > 0; i++) {
            // The last two names share what is left, so that none of them is too short to be new.
            int n = left > 512 ? 256 : left > 256 ? left / 2 : left;
            CheckKit.make(x, 0, 6, i + "n".repeat(n - 3));
            left -= n;
        }
        return x;
    }

    private static void nameBytesAtMost() {
        CheckKit.sentence(7, "have names of 32768 bytes together at most");
        for (int more = 1; more <= 3; more++) {
            FrozenVolume x = withNames(32766);
            CheckKit.due("make of " + more + " behind 32766", CheckKit.make(x, 0, 6, "m".repeat(more)), more <= 2 ? 129 : FULL);
            x = withNames(32766);
            CheckKit.due("tie of " + more + " behind 32766", CheckKit.tie(x, 0, 1, "m".repeat(more)), more <= 2 ? 2 : FULL);
            CheckKit.due("one more byte", CheckKit.tie(x, 0, 1, "o"), more == 2 ? FULL : more == 1 ? 3 : 2);
        }
        FrozenVolume x = withNames(32768);
        CheckKit.due("one byte behind 32768", CheckKit.make(x, 0, 6, "o"), FULL);
        CheckKit.due("256 bytes are dropped", CheckKit.drop(x, 0, "100" + "n".repeat(253)), 1);
        CheckKit.due("as many come", CheckKit.make(x, 0, 6, "o".repeat(256)), 129);
        CheckKit.due("and one more", CheckKit.make(x, 0, 6, "p"), FULL);
    }

    private static void targetBytesAtMost() {
        CheckKit.sentence(6, "all targets (of links that are not gone) likewise");
        for (int more = 1; more <= 3; more++) {
            FrozenVolume x = new FrozenVolume();
            for (int i = 0; i < 8; i++) {
                CheckKit.make(x, 0, 3, i + "\0" + "t".repeat(i < 7 ? 4096 : 4094));
            }
            CheckKit.due("a target of " + more + " behind 32766", CheckKit.make(x, 0, 3, "m\0" + "t".repeat(more)), more <= 2 ? 9 : FULL);
            CheckKit.due("one more entry for a link", CheckKit.tie(x, 0, 1, "n"), 2);
            CheckKit.due("one more byte", CheckKit.make(x, 0, 3, "o\0t"), more == 1 ? 10 : more == 2 ? FULL : 9);
        }
    }

    private static void deepAtMost() {
        CheckKit.sentence(6, "Directories are nested 100 deep at most, the root being 0 deep.");
        FrozenVolume x = new FrozenVolume();
        for (int depth = 1; depth <= 100; depth++) {
            CheckKit.due("a directory " + depth + " deep", CheckKit.make(x, depth - 1, 1, "d"), depth);
        }
        CheckKit.due("one 101 deep", CheckKit.make(x, 100, 1, "d"), FULL);
        CheckKit.due("one that is there, 100 deep", CheckKit.make(x, 99, 1, "d"), THERE);
        CheckKit.due("another one 100 deep", CheckKit.make(x, 99, 1, "e"), 101);
        CheckKit.due("a file in one 100 deep", CheckKit.make(x, 100, 2, "f"), 102);
        CheckKit.due("a tie in one 100 deep", CheckKit.tie(x, 101, 102, "g"), 2);
        mounted(x);
        CheckKit.due("astray", x.astray(), 0);
    }

    private static void tieCounts() {
        CheckKit.sentence(7, "One more entry in a directory, under the tape's name, for a node that is no directory: how many it is in.");
        for (int kind = 2; kind <= 7; kind++) {
            FrozenVolume x = withAll();
            CheckKit.due("tie kind " + kind, CheckKit.tie(x, 0, kind, "a"), 2);
            CheckKit.due("tie it in another directory", CheckKit.tie(x, 1, kind, "a"), 3);
            CheckKit.due("drop one", CheckKit.drop(x, 0, "" + kind), kind);
            CheckKit.due("tie it again", CheckKit.tie(x, 0, kind, "b"), 3);
            mounted(x);
            CheckKit.due("its links", x.about(CheckKit.find(x, 1, "b"), 6), 3);
        }
    }

    private static void tieNoNodes() {
        CheckKit.sentence(7, "BAD: no such nodes, it is a directory, or the tape is no name; NOT_FOLDER; THERE; FULL.");
        for (int node : new int[] {LEAST, -1, 8, 2000, GREATEST}) {
            CheckKit.due("tie in " + node, CheckKit.tie(withAll(), node, 2, "n"), BAD);
            CheckKit.due("tie " + node, CheckKit.tie(withAll(), 0, node, "n"), BAD);
            CheckKit.due("tie " + node + " in a file", CheckKit.tie(withAll(), 2, node, "n"), BAD);
        }
        for (int node = 2; node <= 7; node++) {
            CheckKit.due("tie in a node of kind " + node, CheckKit.tie(withAll(), node, 2, "n"), NOT_FOLDER);
        }
        CheckKit.due("a bad name in a file", CheckKit.tie(withAll(), 2, 2, ""), BAD);
        FrozenVolume x = withAll();
        CheckKit.drop(x, 0, "7");
        CheckKit.due("tie what is gone", CheckKit.tie(x, 0, 7, "n"), BAD);
        CheckKit.drop(x, 0, "1");
        CheckKit.due("tie in what is gone", CheckKit.tie(x, 1, 2, "n"), BAD);
    }

    private static void tieDirectories() {
        CheckKit.sentence(7, "A directory other than the root is in one entry, other nodes in one or more");
        CheckKit.due("tie the root", CheckKit.tie(withAll(), 1, 0, "n"), BAD);
        CheckKit.due("tie the root in itself", CheckKit.tie(withAll(), 0, 0, "n"), BAD);
        CheckKit.due("tie a directory", CheckKit.tie(withAll(), 0, 1, "n"), BAD);
        CheckKit.due("tie a directory in itself", CheckKit.tie(withAll(), 1, 1, "n"), BAD);
        CheckKit.due("tie a directory under its own name", CheckKit.tie(withAll(), 0, 1, "1"), BAD);
        CheckKit.due("tie a directory in a file", CheckKit.tie(withAll(), 2, 1, "n"), BAD);
    }

    private static void tieThere() {
        CheckKit.sentence(7, "no two the same in a directory");
        FrozenVolume x = withAll();
        CheckKit.due("a node under its own name", CheckKit.tie(x, 0, 2, "2"), THERE);
        CheckKit.due("under another's", CheckKit.tie(x, 0, 2, "1"), THERE);
        CheckKit.due("in another directory", CheckKit.tie(x, 1, 2, "2"), 2);
        CheckKit.due("twice there", CheckKit.tie(x, 1, 2, "2"), THERE);
    }

    private static void dropAnswers() {
        CheckKit.sentence(8, "The entry with the tape's name goes: its node.");
        for (int kind = 1; kind <= 7; kind++) {
            FrozenVolume x = withAll();
            CheckKit.due("drop kind " + kind, CheckKit.drop(x, 0, "" + kind), kind);
            CheckKit.due("drop it again", CheckKit.drop(x, 0, "" + kind), NONE);
            CheckKit.due("the node", x.own(kind, 0, 0, 0, 0), BAD);
        }
    }

    private static void dropNames() {
        CheckKit.sentence(8, "BAD: no such node, or the tape is no name; NOT_FOLDER; NONE; NOT_EMPTY: it is a directory with entries.");
        for (int node : new int[] {LEAST, -1, 8, 2000, GREATEST}) {
            CheckKit.due("drop in " + node, CheckKit.drop(withAll(), node, "2"), BAD);
        }
        for (int node = 2; node <= 7; node++) {
            CheckKit.due("drop in a node of kind " + node, CheckKit.drop(withAll(), node, "2"), NOT_FOLDER);
            CheckKit.due("a bad name there", CheckKit.drop(withAll(), node, ""), BAD);
        }
        CheckKit.due("an empty tape", CheckKit.drop(withAll(), 0, ""), BAD);
        FrozenVolume x = withAll();
        CheckKit.make(x, 0, 2, "name");
        for (String name : new String[] {"nam", "names", "nama", "namf", "Name", "n", "0", "8", "\u00ff", "\u0001"}) {
            CheckKit.due("drop " + name, CheckKit.drop(x, 0, name), NONE);
            CheckKit.due("drop " + name + " in an empty directory", CheckKit.drop(x, 1, name), NONE);
        }
        CheckKit.due("drop name", CheckKit.drop(x, 0, "name"), 8);
    }

    private static void dropNotEmpty() {
        CheckKit.sentence(8, "NOT_EMPTY: it is a directory with entries.");
        FrozenVolume x = withAll();
        CheckKit.make(x, 1, 1, "d");
        CheckKit.make(x, 1, 2, "f");
        CheckKit.due("with two entries", CheckKit.drop(x, 0, "1"), NOT_EMPTY);
        CheckKit.due("one goes", CheckKit.drop(x, 1, "d"), 8);
        CheckKit.due("with one", CheckKit.drop(x, 0, "1"), NOT_EMPTY);
        CheckKit.due("the other goes", CheckKit.drop(x, 1, "f"), 9);
        CheckKit.due("with none", CheckKit.drop(x, 0, "1"), 1);
        CheckKit.due("none", CheckKit.drop(x, 0, "1"), NONE);
    }

    private static void goneNode() {
        CheckKit.sentence(8, "a node that is in none any more is GONE, with all that it has: there is no such node any more");
        FrozenVolume x = withAll();
        CheckKit.tie(x, 1, 2, "f");
        CheckKit.due("the first of two entries", CheckKit.drop(x, 0, "2"), 2);
        CheckKit.due("the node is in one yet", x.fill(2, 1, 1), 1);
        CheckKit.due("the other entry", CheckKit.drop(x, 1, "f"), 2);
        CheckKit.due("fill", x.fill(2, 1, 1), BAD);
        CheckKit.due("write", x.write(2), BAD);
        CheckKit.due("own", x.own(2, 1, 1, 1, 1), BAD);
        CheckKit.due("tie", CheckKit.tie(x, 0, 2, "f"), BAD);
        CheckKit.due("make in it", CheckKit.make(x, 2, 2, "f"), BAD);
        CheckKit.due("drop in it", CheckKit.drop(x, 2, "f"), BAD);
        mounted(x);
        CheckKit.due("the frozen ones", x.about(7, 0), 7);
        CheckKit.due("are one less", x.about(8, 0), BAD);
    }

    private static void goneBytes() {
        CheckKit.sentence(8, "its bytes and its target count for nothing");
        FrozenVolume x = withAll();
        CheckKit.make(x, 0, 2, "f");
        for (int i = 0; i < 4; i++) {
            x.fill(i < 2 ? 2 : 8, i, 16384);
        }
        CheckKit.due("one byte too many", x.fill(8, 9, 1), FULL);
        CheckKit.tie(x, 0, 2, "g");
        CheckKit.drop(x, 0, "2");
        CheckKit.due("one entry of two went", x.fill(8, 9, 1), FULL);
        CheckKit.drop(x, 0, "g");
        CheckKit.due("room for as many", x.fill(8, 9, 16384), 49152);
        CheckKit.due("and as many again", x.fill(8, 9, 16384), 65536);
        CheckKit.due("and no more", x.fill(8, 9, 1), FULL);
        mounted(x);
        x.read(CheckKit.find(x, 1, "f"), 0, 1);
        CheckKit.due("the first byte of the other file", x.outWord(0), 2);
        x.read(CheckKit.find(x, 1, "f"), 32767, 2);
        CheckKit.due("its bytes behind", x.outWord(0), 0x0903);
    }

    private static void goneTarget() {
        CheckKit.sentence(8, "its bytes and its target count for nothing");
        FrozenVolume x = new FrozenVolume();
        for (int i = 0; i < 8; i++) {
            CheckKit.make(x, 0, 3, i + "\0" + "t".repeat(4096));
        }
        CheckKit.due("one byte too many", CheckKit.make(x, 0, 3, "a\0t"), FULL);
        CheckKit.tie(x, 0, 1, "b");
        CheckKit.drop(x, 0, "0");
        CheckKit.due("one entry of two went", CheckKit.make(x, 0, 3, "a\0t"), FULL);
        CheckKit.drop(x, 0, "b");
        CheckKit.due("room for as many", CheckKit.make(x, 0, 3, "a\0" + "t".repeat(4096)), 9);
        CheckKit.due("and no more", CheckKit.make(x, 0, 3, "c\0t"), FULL);
    }

    private static void goneNumber() {
        CheckKit.sentence(8, "(its number is given to no other one)");
        FrozenVolume x = withAll();
        CheckKit.drop(x, 0, "7");
        CheckKit.due("the next node", CheckKit.make(x, 0, 7, "7"), 8);
        CheckKit.due("the old number", x.own(7, 0, 0, 0, 0), BAD);
        CheckKit.due("a make that is refused", CheckKit.make(x, 0, 7, "7"), THERE);
        CheckKit.due("takes no number", CheckKit.make(x, 0, 7, "8"), 9);
    }

    private static void writeFiles() {
        CheckKit.sentence(9, "BAD: no such node, or it is no file; FULL.");
        for (int node : new int[] {LEAST, -1, 0, 1, 2, 3, 4, 5, 6, 7, 8, GREATEST}) {
            FrozenVolume x = withAll();
            CheckKit.due("write nothing to " + node, x.write(node), node == 2 ? 0 : BAD);
            CheckKit.due("write to " + node, CheckKit.write(x, node, new byte[3]), node == 2 ? 3 : BAD);
            CheckKit.due("write more to " + node, CheckKit.write(x, node, new byte[1]), node == 2 ? 4 : BAD);
        }
    }

    private static void writeBehind() {
        CheckKit.sentence(9, "The tape's bytes come behind a file's: how many it has.");
        FrozenVolume x = withAll();
        CheckKit.make(x, 0, 2, "f");
        String[] texts = {"", "a", "", "twenty bytes, just so", "and more than twenty bytes of it", ""};
        StringBuilder all = new StringBuilder();
        for (String text : texts) {
            all.append(text);
            CheckKit.due("write " + text.length(), CheckKit.write(x, 2, CheckKit.bytes(text)), all.length());
            CheckKit.due("write to another one", CheckKit.write(x, 8, CheckKit.bytes("-")) > 0 ? 1 : 0, 1);
        }
        mounted(x);
        CheckKit.due("read", x.read(3, 0, 16384), all.length());
        CheckKit.due("the bytes", CheckKit.out(x), CheckKit.bytes(all.toString()));
        x.read(9, 0, 16384);
        CheckKit.due("those of the other", CheckKit.out(x), CheckKit.bytes("------"));
    }

    private static void fillBehind() {
        CheckKit.sentence(10, "So many bytes b come behind a file's: how many it has.");
        FrozenVolume x = withAll();
        CheckKit.due("fill one", x.fill(2, 97, 1), 1);
        CheckKit.due("fill two", x.fill(2, 98, 2), 3);
        CheckKit.due("write one", CheckKit.write(x, 2, CheckKit.bytes("c")), 4);
        CheckKit.due("fill one", x.fill(2, 100, 1), 5);
        mounted(x);
        x.read(3, 0, 9);
        CheckKit.due("the bytes", CheckKit.out(x), CheckKit.bytes("abbcd"));
    }

    private static void bytesAtMost() {
        CheckKit.sentence(9, "a file has BYTES, at first none, all files together 65536 at most");
        for (int n : new int[] {1, 2, 3}) {
            FrozenVolume x = withAll();
            CheckKit.make(x, 0, 2, "f");
            CheckKit.due("at first", x.write(8), 0);
            for (int i = 0; i < 4; i++) {
                x.fill(i < 2 ? 2 : 8, 1, i < 3 ? 16384 : 16382);
            }
            CheckKit.due("write " + n + " behind 65534", CheckKit.write(x, 8, new byte[n]), n <= 2 ? 32766 + n : FULL);
            CheckKit.due("write nothing", x.write(8), n <= 2 ? 32766 + n : 32766);
            CheckKit.due("write one to the other file", CheckKit.write(x, 2, new byte[1]), n == 2 ? FULL : 32769);
            CheckKit.due("write nothing to it", x.write(2), n == 2 ? 32768 : 32769);
        }
    }

    private static void fillBytes() {
        CheckKit.sentence(10, "b is not 0 .. 255");
        for (int b : new int[] {LEAST, -256, -1, 0, 1, 254, 255, 256, 257, GREATEST}) {
            FrozenVolume x = withAll();
            boolean is = b >= 0 && b <= 255;
            CheckKit.due("fill with " + b, x.fill(2, b, 1), is ? 1 : BAD);
            mounted(x);
            CheckKit.due("read", x.read(3, 0, 2), is ? 1 : 0);
            CheckKit.due("the byte", x.outWord(0), is ? b : 0);
        }
    }

    private static void fillCounts() {
        CheckKit.sentence(10, "or n not 1 .. 16384; FULL.");
        for (int n : new int[] {LEAST, -1, 0, 1, 2, 16383, 16384, 16385, 65536, GREATEST}) {
            FrozenVolume x = withAll();
            CheckKit.due("fill " + n, x.fill(2, 7, n), n >= 1 && n <= 16384 ? n : BAD);
        }
        for (int node : new int[] {LEAST, -1, 0, 1, 3, 4, 5, 6, 7, 8, GREATEST}) {
            CheckKit.due("fill node " + node, withAll().fill(node, 7, 1), BAD);
        }
    }

    private static void fillAtMost() {
        CheckKit.sentence(10, "all files together 65536 at most");
        for (int n : new int[] {1, 2, 3, 16384}) {
            FrozenVolume x = withAll();
            CheckKit.make(x, 0, 2, "f");
            for (int i = 0; i < 4; i++) {
                x.fill(i < 2 ? 2 : 8, 1, i < 3 ? 16384 : 16382);
            }
            CheckKit.due("fill " + n + " behind 65534", x.fill(8, 2, n), n <= 2 ? 32766 + n : FULL);
            CheckKit.due("fill one of the other file", x.fill(2, 2, 1), n == 2 ? FULL : 32769);
            CheckKit.due("a wrong count of a full one", x.fill(2, 2, 16385), BAD);
            CheckKit.due("a wrong byte of a full one", x.fill(2, 256, 16384), BAD);
        }
    }

    private static void fillLeavesTheTape() {
        CheckKit.sentence(10, "(The tape stays.)");
        FrozenVolume x = withAll();
        x.feed(1, 2, 3, 4, 5);
        x.fill(2, 1, 1);
        x.fill(2, 1, 0);
        CheckKit.due("end", x.end(19), 19);
        x.fill(2, 1, 1);
        CheckKit.due("write", x.write(2), 21);
    }

    private static void ownModes() {
        CheckKit.sentence(11, "BAD: no such node, or mode is not 0 .. 4095.");
        for (int mode : new int[] {LEAST, -1, 0, 1, 4094, 4095, 4096, GREATEST}) {
            for (int node = 0; node <= 7; node++) {
                FrozenVolume x = withAll();
                boolean is = mode >= 0 && mode <= 4095;
                CheckKit.due("own " + node + " with mode " + mode, x.own(node, mode, 6, 7, 8), is ? 0 : BAD);
                mounted(x);
                CheckKit.due("its mode", x.about(node + 1, 1), is ? mode : node <= 1 ? 493 : 420);
                CheckKit.due("its owner", x.about(node + 1, 2), is ? 6 : 0);
                CheckKit.due("its group", x.about(node + 1, 3), is ? 7 : 0);
                CheckKit.due("its time", x.about(node + 1, 4), is ? 8 : 0);
            }
        }
    }

    private static void ownNodes() {
        CheckKit.sentence(11, "BAD: no such node");
        for (int node : new int[] {LEAST, -1, 8, 2000, GREATEST}) {
            CheckKit.due("own " + node, withAll().own(node, 1, 1, 1, 1), BAD);
        }
        CheckKit.due("own 7", withAll().own(7, 1, 1, 1, 1), 0);
        CheckKit.due("own 0", withAll().own(0, 1, 1, 1, 1), 0);
    }

    private static void ownNumbers() {
        CheckKit.sentence(11, "Ints stand for u4 by their bits.");
        int[] numbers = {0, 1, -1, LEAST, GREATEST};
        for (int i = 0; i < numbers.length; i++) {
            FrozenVolume x = withAll();
            int owner = numbers[i];
            int group = numbers[(i + 1) % 5];
            int time = numbers[(i + 2) % 5];
            CheckKit.due("own", x.own(2, 0, owner, group, time), 0);
            mounted(x);
            CheckKit.due("owner", x.about(3, 2), owner & 4294967295L);
            CheckKit.due("group", x.about(3, 3), group & 4294967295L);
            CheckKit.due("time", x.about(3, 4), time & 4294967295L);
        }
    }
}
