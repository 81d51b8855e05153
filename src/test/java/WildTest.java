import java.util.Random;

/** No call may throw or fail to end, whatever it is asked, in whatever state; and what is refused changes nothing. */
public final class WildTest {
    private static final int[] ODD = {0, 1, 2, 3, -1, 7, 8, 12, 15, 16, 20, 21, 255, 256, 4095, 4096, 16384, 16385,
        1 << 29, Integer.MAX_VALUE, Integer.MIN_VALUE};

    public static void main(String[] args) {
        for (int seed = 0; seed < 400; seed++) {
            wildCalls(new Random(seed));
        }
        for (int seed = 0; seed < 300; seed++) {
            wildImages(new Random(seed));
        }
        for (int seed = 0; seed < 200; seed++) {
            wildBytes(new Random(seed));
        }
        sameAgain();
        for (int state = 0; state < 5; state++) {
            extremes(state);
        }
        CheckKit.finish("WildTest");
    }

    private static int odd(Random random) {
        return random.nextInt(3) > 0 ? random.nextInt(6) : random.nextInt(20) == 0 ? random.nextInt() : ODD[random.nextInt(ODD.length)];
    }

    private static long call(FrozenVolume x, Random random) {
        int a = odd(random);
        int b = odd(random);
        int c = odd(random);
        switch (random.nextInt(28)) {
            case 0: case 1: case 2: case 3: return x.feed(random.nextInt(), a, b, c, random.nextInt());
            case 4: case 5: return x.end(random.nextInt(6));
            case 6: return x.end(a);
            case 7: return x.outWord(a);
            case 8: case 9: case 10: CheckKit.feed(x, "" + (char) (97 + random.nextInt(26)) + (random.nextInt(4) == 0 ? "\0t" : ""));
                return x.make(random.nextInt(8), 1 + random.nextInt(7), c);
            case 11: return x.make(a, b, c);
            case 12: CheckKit.feed(x, "" + (char) (97 + random.nextInt(26))); return x.tie(a, b);
            case 13: CheckKit.feed(x, "" + (char) (97 + random.nextInt(26))); return x.drop(a);
            case 14: return x.write(a);
            case 15: return x.fill(a, b, c);
            case 16: return x.own(a, b, c, a, b);
            case 17: return x.freeze(12 + random.nextInt(5), random.nextInt(16), a);
            case 18: return x.freeze(a, b, c);
            case 19: return x.astray() + x.image() + x.out();
            case 20: return x.imageWord(a);
            case 21: return x.patch(random.nextInt(3) == 0 ? a : random.nextInt(500), b);
            case 22: return x.keep(random.nextInt(20) == 0 ? a : x.image());
            case 23: return x.mount();
            case 24: return x.find(a);
            case 25: return x.about(a, b) + x.entry(a, b);
            case 26: return x.read(a, random.nextBoolean() ? b : random.nextLong(), c);
            default: return x.target(a) + x.place(b);
        }
    }

    private static void wildCalls(Random random) {
        FrozenVolume x = new FrozenVolume();
        for (int i = 0; i < 512; i++) {
            call(x, random);
        }
        int size = x.freeze(12, random.nextInt(16), 0);
        CheckKit.due("freeze after wild calls", size > 96 ? 1 : 0, 1);
        CheckKit.due("astray after wild calls", x.astray(), 0);
        CheckKit.due("mount after wild calls", x.mount(), 0);
    }

    /** Frozen images with some bytes spoiled: a fault from 1 to 8, or all can be looked at. */
    private static void wildImages(Random random) {
        FrozenVolume x = new FrozenVolume();
        for (int i = 0; i < 150; i++) {
            call(x, random);
        }
        for (int round = 0; round < 30; round++) {
            int size = x.freeze(12, random.nextInt(4) > 0 ? 3 + 4 * random.nextInt(4) : random.nextInt(16), 0);
            int inodes = (int) x.imageWord(8);
            for (int k = random.nextInt(3); k >= 0; k--) {
                int at = random.nextInt(4) == 0 ? random.nextInt(size) : inodes + random.nextInt(size - inodes);
                x.patch(at, random.nextBoolean() ? random.nextInt() : (int) (x.imageWord(at / 8) >> 8 * (at % 8)) + 1);
            }
            int fault = x.mount();
            CheckKit.due("a fault from 0 to 8", fault >= 0 && fault <= 8 ? 1 : 0, 1);
            lookAtAll(x, fault == 0);
        }
    }

    private static void lookAtAll(FrozenVolume x, boolean mounted) {
        x.find(0); // uses up what the wild calls left on the tape
        for (int inode = 1; inode < 12; inode++) {
            long kind = x.about(inode, 0);
            CheckKit.due("a kind just if it is mounted", kind >= 1 == (mounted && x.about(inode, 11) > 0) ? 1 : 0, 1);
            CheckKit.due("read just of files", x.read(inode, 0, 16384) >= 0 == (kind == 2) ? 1 : 0, 1);
            CheckKit.due("place just of files", x.place(inode) >= 0 == (kind == 2) ? 1 : 0, 1);
            CheckKit.due("target just of links", x.target(inode) >= 0 == (kind == 3) ? 1 : 0, 1);
            for (int i = 0; kind == 1 && i < x.about(inode, 9); i++) {
                int child = x.entry(inode, i);
                byte[] name = CheckKit.out(x);
                CheckKit.feed(x, name);
                CheckKit.due("what an entry leads to is found by its name", x.find(inode), child);
            }
        }
    }

    private static void wildBytes(Random random) {
        FrozenVolume x = new FrozenVolume();
        byte[] bytes = new byte[random.nextInt(3000)];
        random.nextBytes(bytes);
        CheckKit.setImage(x, bytes);
        CheckKit.due("mount of wild bytes", x.mount(), 1);
    }

    /** New; with a tree; frozen; mounted; with a fault. */
    private static FrozenVolume inState(int state) {
        FrozenVolume x = new FrozenVolume();
        for (int kind = 1; kind <= 7 && state > 0; kind++) {
            CheckKit.make(x, 0, kind, -1, kind == 3 ? "3\0to" : "" + kind);
        }
        x.fill(2, 1, 5000);
        if (state > 1) {
            x.freeze(12, 8, -1);
        }
        if (state == 3) {
            x.mount();
        }
        if (state == 4) {
            x.patch(200, 77);
            x.mount();
        }
        x.feed(-1, 0, 0x2f2e2e2f, 1, 2);
        return x;
    }

    /** Each call with the least and the greatest numbers there are, and those at the edges of an int's parts. */
    private static void extremes(int state) {
        int[] all = {Integer.MIN_VALUE, Integer.MIN_VALUE + 1, -65536, -4097, -2, -1, 0, 1, 2, 3, 8, 12, 16, 255, 256, 4095, 4096, 8191, 8192,
            16384, 65535, 65536, 131071, 131072, 1 << 24, 1 << 28, 1 << 29, 1 << 30, Integer.MAX_VALUE - 1, Integer.MAX_VALUE};
        for (int a : all) {
            FrozenVolume x = inState(state);
            long alone = x.feed(a, a, a, a, a) + x.end(a) + x.outWord(a) + x.drop(a) + x.write(a) + x.imageWord(a) + x.keep(a) + x.find(a)
                    + x.target(a) + x.place(a);
            for (int b : all) {
                x = inState(state);
                long two = x.tie(a, b) + x.about(a, b) + x.entry(a, b) + x.patch(a, b) + x.mount() + x.out() + x.image() + x.astray();
                for (int c : new int[] {Integer.MIN_VALUE, -1, 0, 1, 7, Integer.MAX_VALUE}) {
                    two += x.make(a, b, c) + x.make(c, a, b) + x.fill(a, b, c) + x.fill(c, a, b) + x.own(a, b, c, c, c) + x.freeze(a, b, c)
                            + x.read(a, b, c) + x.read(c, a * 4294967297L, b) + x.read(c, Long.MIN_VALUE + a, b) + x.read(2, Long.MAX_VALUE - b, a);
                }
                CheckKit.due("answers that are not far below 0", two > -1000 && alone != Long.MIN_VALUE ? 1 : 0, 1);
            }
        }
    }

    /** The same calls always give the same answers. */
    private static void sameAgain() {
        for (int seed = 1000; seed < 1050; seed++) {
            Random one = new Random(seed);
            Random two = new Random(seed);
            FrozenVolume x = new FrozenVolume();
            FrozenVolume y = new FrozenVolume();
            for (int i = 0; i < 512; i++) {
                CheckKit.due("the same call", call(x, one), call(y, two));
            }
        }
    }
}
