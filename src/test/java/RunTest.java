import java.util.Arrays;
import java.util.List;
import java.util.Random;

/**
 * All promises: runs of up to 512 calls, each of which must answer as the plain second class does.
 * Looks at all bytes and all inodes come between them; these change nothing but the out, and are not counted.
 */
public final class RunTest {
    private static final int MOST = 512;
    private static final String[] NAMES = {"a", "b", "c", "ab", "a b", "..", ".", "...", "", "a\0b", "x/y", "\u00ff", "\u0001", "\u0080z"};

    private final FrozenVolume x = new FrozenVolume();
    private final PlainKit plain = new PlainKit();
    private final Random random;
    private final String run;
    private int calls;

    private RunTest(int seed, String sort) {
        random = new Random(seed);
        run = sort + " " + seed + ", call ";
    }

    public static void main(String[] args) {
        int many = args.length > 0 ? Integer.parseInt(args[0]) : 60;
        int first = args.length > 1 ? Integer.parseInt(args[1]) : 0;
        CheckKit.forgetMet();
        for (int seed = first; seed < first + many; seed++) {
            new RunTest(seed, "mixed").mixed();
            new RunTest(seed, "spoiled").spoiled();
            new RunTest(seed, "tree").tree();
        }
        CheckKit.dueMet("fault", 0, 1, 2, 3, 4, 5, 6, 7, 8);
        CheckKit.finish("RunTest");
    }

    private void due(String call, long got, long want) {
        calls++;
        CheckKit.due(run + calls + ": " + call, got, want);
    }

    private boolean goesOn() {
        return calls < MOST - 30;
    }

    private int below(int n) {
        return random.nextInt(n);
    }

    private boolean rarely() {
        return below(12) == 0;
    }

    private int odd() {
        int[] odd = {-1, 0, 1, 2, 20, 21, 255, 256, 4095, 4096, 16384, 16385, 131072, Integer.MIN_VALUE, Integer.MAX_VALUE};
        return odd[below(odd.length)];
    }

    // Calls on both.

    private void feed(int a, int b, int c, int d, int e) {
        due("feed", x.feed(a, b, c, d, e), plain.feed(a, b, c, d, e));
    }

    private void end(int n) {
        due("end(" + n + ")", x.end(n), plain.end(n));
    }

    private void tape(byte[] bytes) {
        for (int at = 0; at < bytes.length && calls < MOST - 2; at += 20) {
            int[] words = new int[5];
            int n = Math.min(20, bytes.length - at);
            for (int i = 0; i < n; i++) {
                words[i / 4] |= (bytes[at + i] & 255) << 24 - 8 * (i % 4);
            }
            feed(words[0], words[1], words[2], words[3], words[4]);
            if (n < 20) {
                end(n);
            }
        }
    }

    private void freeze() {
        int log = rarely() ? odd() : 12 + below(5);
        int options = rarely() ? odd() : below(16);
        int time = random.nextInt();
        due("freeze(" + log + ", " + options + ")", x.freeze(log, options, time), plain.freeze(log, options, time));
        due("astray()", x.astray(), plain.astray());
        due("image()", x.image(), plain.image.length);
        CheckKit.due(run + calls + ": all bytes of the image", CheckKit.image(x), plain.image);
    }

    private int mount() {
        int fault = plain.mount();
        CheckKit.met("fault", fault);
        due("mount()", x.mount(), fault);
        return fault;
    }

    private void patch(int i, int b) {
        due("patch(" + i + ", " + b + ")", x.patch(i, b), plain.patch(i, b));
    }

    private void outHolds() {
        due("out()", x.out(), plain.out.length);
        CheckKit.due(run + calls + ": all bytes of the out", CheckKit.out(x), plain.out);
        int i = rarely() ? odd() : below(plain.out.length / 8 + 2);
        due("outWord(" + i + ")", x.outWord(i), PlainKit.word(plain.out, i));
    }

    private void imageWord() {
        int i = rarely() ? odd() : below(plain.image.length / 8 + 2);
        due("imageWord(" + i + ")", x.imageWord(i), PlainKit.word(plain.image, i));
    }

    // What may be asked.

    private byte[] name() {
        if (rarely()) {
            return CheckKit.bytes("n".repeat(new int[] {1, 19, 20, 21, 255, 256, 257}[below(7)]));
        }
        return CheckKit.bytes(below(3) == 0 ? NAMES[below(NAMES.length)] : "" + (char) (97 + below(26)) + (char) (97 + below(4)));
    }

    private int node() {
        return rarely() ? odd() : below(plain.nodes.size() + 1);
    }

    /** A number of a node of a kind, if it comes up soon. */
    private int node(int kind) {
        for (int k = 0; k < 20; k++) {
            int id = below(plain.nodes.size());
            if (plain.nodes.get(id) != null && plain.nodes.get(id).kind == kind) {
                return id;
            }
        }
        return node();
    }

    private void make() {
        int kind = rarely() ? odd() : 1 + below(7);
        byte[] name = name();
        if (kind == 3 && !rarely()) {
            name = FreezeKit.join(name, new byte[1], PackKit.sample(random, 5, below(60)));
        }
        tape(name);
        int folder = rarely() ? node() : node(1);
        int number = random.nextInt();
        due("make(" + folder + ", " + kind + ")", x.make(folder, kind, number), plain.make(folder, kind, number));
    }

    private void changeTree() {
        switch (below(9)) {
            case 0: {
                int folder = rarely() ? node() : node(1);
                int id = node();
                tape(name());
                due("tie(" + folder + ", " + id + ")", x.tie(folder, id), plain.tie(folder, id));
                break;
            }
            case 1: {
                int folder = rarely() ? node() : node(1);
                FreezeKit.Node one = folder >= 0 && folder < plain.nodes.size() ? plain.nodes.get(folder) : null;
                tape(one != null && !one.entries.isEmpty() && !rarely() ? CheckKit.bytes(one.entries.firstKey()) : name());
                due("drop(" + folder + ")", x.drop(folder), plain.drop(folder));
                break;
            }
            case 2: case 3: {
                int id = rarely() ? node() : node(2);
                tape(PackKit.sample(random, below(6), below(rarely() ? 700 : 60)));
                due("write(" + id + ")", x.write(id), plain.write(id));
                break;
            }
            case 4: case 5: {
                int id = rarely() ? node() : node(2);
                int b = rarely() ? odd() : below(3) * 100;
                int n = rarely() ? odd() : below(3) == 0 ? 4096 * (1 + below(3)) : 1 + below(5000);
                due("fill(" + id + ", " + b + ", " + n + ")", x.fill(id, b, n), plain.fill(id, b, n));
                break;
            }
            case 6: {
                int id = node();
                int mode = rarely() ? odd() : below(4096);
                int owner = below(3) == 0 ? random.nextInt() : below(3);
                int group = below(4);
                int time = random.nextInt();
                due("own(" + id + ", " + mode + ")", x.own(id, mode, owner, group, time), plain.own(id, mode, owner, group, time));
                break;
            }
            default: make();
        }
    }

    private int inode() {
        int most = plain.mounted == null ? 6 : plain.mounted.inodes.size();
        return rarely() ? odd() : 1 + below(most + 1);
    }

    private void look() {
        int inode = inode();
        switch (below(7)) {
            case 0: case 1: {
                tape(path());
                due("find(" + inode + ")", x.find(inode), plain.find(inode));
                break;
            }
            case 2: {
                int what = rarely() ? odd() : below(13);
                due("about(" + inode + ", " + what + ")", x.about(inode, what), plain.about(inode, what));
                break;
            }
            case 3: {
                int i = rarely() ? odd() : below(8);
                due("entry(" + inode + ", " + i + ")", x.entry(inode, i), plain.entry(inode, i));
                break;
            }
            case 4: {
                long from = rarely() ? random.nextLong() : below(3) == 0 ? below(20000) : below(5) * 4096 - below(2);
                int n = rarely() ? odd() : below(3) == 0 ? 16384 : below(5000);
                due("read(" + inode + ", " + from + ", " + n + ")", x.read(inode, from, n), plain.read(inode, from, n));
                break;
            }
            case 5: due("target(" + inode + ")", x.target(inode), plain.target(inode)); break;
            default: due("place(" + inode + ")", x.place(inode), plain.place(inode));
        }
        if (below(3) == 0) {
            outHolds();
        }
    }

    private byte[] path() {
        StringBuilder path = new StringBuilder();
        ReadKit.Inode here = plain.mounted == null ? null : plain.mounted.root;
        for (int k = below(6); k > 0; k--) {
            path.append("/".repeat(below(3) + (path.length() > 0 ? 1 : 0)));
            if (here != null && !here.names.isEmpty() && !rarely()) {
                int i = below(here.names.size());
                path.append(new String(here.names.get(i), java.nio.charset.StandardCharsets.ISO_8859_1));
                here = here.children.get(i);
            } else {
                path.append(NAMES[below(NAMES.length)]);
            }
        }
        return CheckKit.bytes(path.append("/".repeat(below(2))).toString());
    }

    /** All that can be asked of each inode, outside the count of calls. */
    private void lookAtAll() {
        int before = calls;
        for (ReadKit.Inode inode : plain.mounted.inodes.values()) {
            int number = inode.number;
            for (int what = 0; what < 12; what++) {
                due("about(" + number + ", " + what + ")", x.about(number, what), plain.about(number, what));
            }
            for (int i = 0; i <= inode.names.size(); i++) {
                due("entry(" + number + ", " + i + ")", x.entry(number, i), plain.entry(number, i));
                CheckKit.due(run + "name", CheckKit.out(x), plain.out);
            }
            due("read(" + number + ")", x.read(number, 0, 16384), plain.read(number, 0, 16384));
            due("target(" + number + ")", x.target(number), plain.target(number));
            due("place(" + number + ")", x.place(number), plain.place(number));
            CheckKit.due(run + "the out of " + number, CheckKit.out(x), plain.out);
        }
        calls = before;
    }

    // Runs.

    private void mixed() {
        while (goesOn()) {
            switch (below(14)) {
                case 0: feed(random.nextInt(), random.nextInt(), 0, -1, 7); break;
                case 1: end(rarely() ? odd() : below(21)); break;
                case 2: freeze(); break;
                case 3: mount(); break;
                case 4: patch(rarely() ? odd() : below(plain.image.length + 1), random.nextInt()); break;
                case 5: {
                    int n = rarely() ? odd() : plain.image.length - (rarely() ? below(9) : 0);
                    due("keep(" + n + ")", x.keep(n), plain.keep(n));
                    break;
                }
                case 6: imageWord(); break;
                case 7: freezeAndMount(); break;
                case 8: case 9: look(); break;
                default: changeTree();
            }
        }
    }

    private void freezeAndMount() {
        freeze();
        mount();
        for (int k = below(10); k > 0 && goesOn(); k--) {
            look();
        }
    }

    /** A tree, and then its image with one number of the form after the other made another one. */
    private void spoiled() {
        while (calls < 150) {
            changeTree();
        }
        while (goesOn()) {
            int log = 12 + below(5);
            int options = below(4) == 0 ? below(16) : 3 | below(4) << 2;
            due("freeze", x.freeze(log, options, 0), plain.freeze(log, options, 0));
            byte[] good = plain.image;
            mount();
            List<int[]> fields = plain.mounted.fields;
            for (int k = 0; k < 12 && goesOn(); k++) {
                spoil(fields);
                if (mount() == 0) {
                    lookAtAll();
                    look();
                }
                for (int i = Arrays.mismatch(plain.image, good); i >= 0 && goesOn(); i = Arrays.mismatch(plain.image, good)) {
                    patch(i, good[i]);
                }
            }
        }
    }

    private void spoil(List<int[]> fields) {
        int[] field = fields.get(below(fields.size()));
        long old = 0;
        for (int i = field[1] - 1; i >= 0; i--) {
            old = old << 8 | plain.image[field[0] + i] & 255;
        }
        int[] other = fields.get(below(fields.size()));
        long now;
        switch (below(8)) {
            case 0: now = old + 1; break;
            case 1: now = old - 1; break;
            case 2: now = below(8); break;
            case 3: now = -1 - below(3); break;
            case 4: now = old ^ 1L << below(8 * field[1]); break;
            case 5: now = old + 16777216; break;
            case 6: now = plain.image[other[0]] & 255; break;
            default: now = random.nextInt();
        }
        for (int i = 0; i < field[1]; i++) {
            int b = (int) (now >> 8 * i) & 255;
            if (b != (plain.image[field[0] + i] & 255)) {
                patch(field[0] + i, b);
            }
        }
    }

    /** Little but the tree, with many nodes in it. */
    private void tree() {
        while (goesOn()) {
            if (below(40) == 0) {
                freezeAndMount();
            } else {
                changeTree();
            }
        }
        freeze();
        if (mount() == 0) {
            lookAtAll();
        }
    }
}
