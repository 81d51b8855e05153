import java.util.Arrays;

/** The edges of promises 14 to 17, and of when an image is mounted, each sentence by itself. */
public final class ImageEdgeTest {
    private static final int BAD = FrozenVolume.BAD, FULL = FrozenVolume.FULL;
    private static final int LEAST = Integer.MIN_VALUE, GREATEST = Integer.MAX_VALUE;
    private static final byte[] MOST = new byte[131072];

    public static void main(String[] args) {
        for (int i = 0; i < MOST.length; i++) {
            MOST[i] = (byte) (i * 7 + i / 256 + 1);
        }
        imageAtFirst();
        imageSizes();
        words();
        wordsOfTheMost();
        wordsWhereThereAreNone();
        patchPlaces();
        patchBytes();
        keepFirst();
        keepOutside();
        keepFull();
        mountedAndNoMore();
        mountedAfterRefusals();
        mountedAfterAFault();
        notMountedAtFirst();
        CheckKit.finish("ImageEdgeTest");
    }

    private static FrozenVolume imageOf(int size) {
        FrozenVolume x = new FrozenVolume();
        CheckKit.setImage(x, Arrays.copyOf(MOST, size));
        return x;
    }

    private static void imageAtFirst() {
        CheckKit.sentence(14, "THE IMAGE is a row of at most 131072 bytes, at first none.");
        FrozenVolume x = new FrozenVolume();
        CheckKit.due("image at first", x.image(), 0);
        CheckKit.due("keep nothing", x.keep(0), 0);
        CheckKit.due("image", x.image(), 0);
        for (int size : new int[] {131071, 131072}) {
            x = imageOf(size);
            CheckKit.due("image of " + size, x.image(), size);
            CheckKit.due("its bytes", CheckKit.image(x), Arrays.copyOf(MOST, size));
        }
    }

    private static void imageSizes() {
        CheckKit.sentence(14, "How many bytes the image has.");
        FrozenVolume x = imageOf(21);
        for (int size : new int[] {21, 20, 1, 0}) {
            x.keep(size);
            CheckKit.due("image", x.image(), size);
        }
        int size = x.freeze(12, 0, 0);
        CheckKit.due("image when it was frozen", x.image(), size);
        x.freeze(11, 0, 0);
        CheckKit.due("image when that was refused", x.image(), size);
    }

    private static void words() {
        CheckKit.sentence(15, "Eight bytes of the image, as outWord() has them.");
        for (int size : new int[] {0, 1, 7, 8, 9, 15, 16, 17}) {
            FrozenVolume x = imageOf(size);
            for (int i = 0; i < 4; i++) {
                long word = 0;
                for (int k = 7; k >= 0; k--) {
                    word = word << 8 | (8 * i + k < size ? MOST[8 * i + k] & 255 : 0);
                }
                CheckKit.due("imageWord(" + i + ") of " + size, x.imageWord(i), word);
            }
        }
        FrozenVolume x = imageOf(16);
        x.keep(9);
        CheckKit.due("what was there before is not told", x.imageWord(1), MOST[8] & 255);
    }

    private static void wordsOfTheMost() {
        CheckKit.sentence(15, "THE IMAGE is a row of at most 131072 bytes");
        FrozenVolume x = imageOf(131072);
        CheckKit.due("the last word's highest byte", x.imageWord(16383) >>> 56, MOST[131071] & 255);
        CheckKit.due("the last word's lowest byte", x.imageWord(16383) & 255, MOST[131064] & 255);
        CheckKit.due("the word behind", x.imageWord(16384), 0);
        x = imageOf(131071);
        CheckKit.due("the last word's highest byte of one less", x.imageWord(16383) >>> 56, 0);
    }

    private static void wordsWhereThereAreNone() {
        CheckKit.sentence(15, "0 when there are none (i below 0, or any i beyond)");
        FrozenVolume x = imageOf(131072);
        int[] none = {LEAST, LEAST + 1, -(1 << 29), -(1 << 28), -2, -1, 16384, 16385, 1 << 28, 1 << 29, (1 << 29) + 1, 3 << 29, GREATEST};
        for (int i : none) {
            CheckKit.due("imageWord(" + i + ")", x.imageWord(i), 0);
            CheckKit.due("imageWord(" + i + ") of a new object", new FrozenVolume().imageWord(i), 0);
        }
        CheckKit.due("imageWord(0) of a new object", new FrozenVolume().imageWord(0), 0);
    }

    private static void patchPlaces() {
        CheckKit.sentence(16, "BAD: there is none.");
        for (int size : new int[] {0, 1, 2, 131071, 131072}) {
            FrozenVolume x = imageOf(size);
            for (int i : new int[] {LEAST, -1, 0, 1, 2, size - 2, size - 1, size, size + 1, 131071, 131072, GREATEST}) {
                boolean is = i >= 0 && i < size;
                int was = x.patch(i, 77);
                CheckKit.due("patch(" + i + ") of " + size, was < 0 ? was : 0, is ? 0 : BAD);
                CheckKit.due("patched back", x.patch(i, was), is ? 77 : BAD);
            }
            CheckKit.due("the image's size", x.image(), size);
            CheckKit.due("the image's bytes", CheckKit.image(x), Arrays.copyOf(MOST, size));
        }
    }

    private static void patchBytes() {
        CheckKit.sentence(16, "A byte of the image becomes b (its lowest eight bits): what it was.");
        FrozenVolume x = imageOf(3);
        int last = MOST[1] & 255;
        for (int b : new int[] {0, 1, 127, 128, 254, 255, 256, 257, 511, 512, -1, -2, -128, -129, -256, LEAST, GREATEST}) {
            CheckKit.due("patch to " + b, x.patch(1, b), last);
            last = b & 255;
            CheckKit.due("its word", x.imageWord(0), (MOST[0] & 255) | last << 8 | (MOST[2] & 255) << 16);
        }
    }

    private static void keepFirst() {
        CheckKit.sentence(17, "The image keeps its first n bytes, and the tape comes behind them: how many it has.");
        for (int n : new int[] {0, 1, 29, 30}) {
            for (int tape : new int[] {0, 1, 20, 21}) {
                FrozenVolume x = imageOf(30);
                CheckKit.feed(x, "tape of twenty-one b!".substring(0, tape));
                CheckKit.due("keep(" + n + ") with " + tape, x.keep(n), n + tape);
                CheckKit.due("the image", CheckKit.image(x),
                        ImageKit.join(Arrays.copyOf(MOST, n), CheckKit.bytes("tape of twenty-one b!".substring(0, tape))));
            }
        }
    }

    private static void keepOutside() {
        CheckKit.sentence(17, "BAD: n is not 0 .. its size; FULL.");
        for (int size : new int[] {0, 1, 30}) {
            for (int n : new int[] {LEAST, -1, 0, 1, 2, 29, 30, 31, GREATEST}) {
                boolean is = n >= 0 && n <= size;
                FrozenVolume x = imageOf(size);
                CheckKit.feed(x, "t");
                CheckKit.due("keep(" + n + ") of " + size, x.keep(n), is ? n + 1 : BAD);
                CheckKit.due("image", x.image(), is ? n + 1 : size);
                CheckKit.due("the tape was used up", x.keep(0), 0);
            }
        }
    }

    private static void keepFull() {
        CheckKit.sentence(17, "FULL: something would be more than may be.");
        for (int n = 131069; n <= 131073; n++) {
            for (int tape = 0; tape <= 4; tape++) {
                FrozenVolume x = imageOf(131072);
                CheckKit.feed(x, "tape".substring(0, tape));
                int due = n > 131072 ? BAD : n + tape > 131072 ? FULL : n + tape;
                CheckKit.due("keep(" + n + ") with " + tape, x.keep(n), due);
                CheckKit.due("image", x.image(), due < 0 ? 131072 : due);
                CheckKit.due("the byte at 131070", x.imageWord(16383) >> 48 & 255, due >= 0 && due < 131071 ? 0
                        : due >= 0 && n <= 131070 ? "tape".charAt(131070 - n) : MOST[131070] & 255);
                CheckKit.due("the tape was used up", x.keep(5), 5);
            }
        }
    }

    /** A tree's image that is mounted. */
    private static FrozenVolume mounted() {
        FrozenVolume x = new FrozenVolume();
        CheckKit.make(x, 0, 2, "f");
        x.freeze(12, 0, 0);
        CheckKit.due("mount", x.mount(), 0);
        CheckKit.due("about", x.about(1, 0), 1);
        return x;
    }

    private static void isMounted(String what, FrozenVolume x, boolean is) {
        CheckKit.due(what + ": about", x.about(1, 0), is ? 1 : BAD);
        CheckKit.due(what + ": entry", x.entry(1, 0), is ? 2 : BAD);
        CheckKit.due(what + ": read", x.read(2, 0, 1), is ? 0 : BAD);
        CheckKit.due(what + ": place", x.place(2), is ? 0 : BAD);
        CheckKit.due(what + ": find", CheckKit.find(x, 1, "f"), is ? 2 : BAD);
    }

    private static void mountedAndNoMore() {
        CheckKit.sentence(18, "It is MOUNTED from a mount() that answers 0 until a mount() that does not, or a freeze(), patch() or keep() that is not refused.");
        FrozenVolume x = mounted();
        x.freeze(12, 0, 0);
        isMounted("behind freeze", x, false);
        x = mounted();
        x.patch(0, x.patch(0, 104));
        isMounted("behind patch of the same byte", x, false);
        CheckKit.due("mount again", x.mount(), 0);
        isMounted("mounted again", x, true);
        x.keep(x.image());
        isMounted("behind keep of all", x, false);
        CheckKit.due("mount again", x.mount(), 0);
        CheckKit.due("and again", x.mount(), 0);
        isMounted("mounted twice", x, true);
        x.keep(0);
        isMounted("behind keep of nothing", x, false);
    }

    private static void mountedAfterRefusals() {
        CheckKit.sentence(18, "or a freeze(), patch() or keep() that is not refused.");
        FrozenVolume x = mounted();
        int size = x.image();
        CheckKit.due("freeze", x.freeze(17, 0, 0), BAD);
        CheckKit.due("freeze", x.freeze(12, 16, 0), BAD);
        CheckKit.due("patch", x.patch(size, 0), BAD);
        CheckKit.due("patch", x.patch(-1, 0), BAD);
        CheckKit.due("keep", x.keep(size + 1), BAD);
        CheckKit.due("keep", x.keep(-1), BAD);
        isMounted("behind refusals", x, true);
        CheckKit.make(x, 0, 2, "g");
        CheckKit.drop(x, 0, "f");
        x.fill(2, 1, 1);
        isMounted("the tree is another one", x, true);
        x = mounted();
        CheckKit.setImage(x, ImageKit.join(CheckKit.image(x), new byte[131072 - size]));
        CheckKit.due("mount", x.mount(), 0);
        CheckKit.feed(x, "t");
        CheckKit.due("keep", x.keep(131072), FULL);
        isMounted("behind a FULL keep", x, true);
    }

    private static void mountedAfterAFault() {
        CheckKit.sentence(18, "until a mount() that does not");
        FrozenVolume x = mounted();
        int was = x.patch(0, 0);
        isMounted("behind patch", x, false);
        CheckKit.due("mount", x.mount(), 1);
        isMounted("behind a fault", x, false);
        x.patch(0, was);
        isMounted("patched back", x, false);
        CheckKit.due("mount", x.mount(), 0);
        isMounted("mounted again", x, true);
    }

    private static void notMountedAtFirst() {
        CheckKit.sentence(18, "It is MOUNTED from a mount() that answers 0");
        FrozenVolume x = new FrozenVolume();
        isMounted("a new object", x, false);
        CheckKit.due("mount of no bytes", x.mount(), 1);
        isMounted("behind that", x, false);
        CheckKit.make(x, 0, 2, "f");
        x.freeze(12, 0, 0);
        isMounted("frozen, but not mounted", x, false);
        x.mount();
        isMounted("mounted", x, true);
    }
}
