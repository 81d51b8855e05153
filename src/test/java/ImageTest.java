import java.util.Arrays;

/** Promises 14 to 17: image, imageWord, patch, keep. */
public final class ImageTest {
    private static final int BAD = FrozenVolume.BAD, FULL = FrozenVolume.FULL;

    public static void main(String[] args) {
        words();
        patching();
        keeping();
        keepFull();
        CheckKit.finish("ImageTest");
    }

    private static void words() {
        FrozenVolume x = new FrozenVolume();
        CheckKit.feed(x, "abcdefghij\u00ff");
        CheckKit.due("keep", x.keep(0), 11);
        CheckKit.due("image", x.image(), 11);
        CheckKit.due("imageWord(0)", x.imageWord(0), 0x6867666564636261L);
        CheckKit.due("imageWord(1)", x.imageWord(1), 0xff6a69L);
        CheckKit.due("imageWord(2)", x.imageWord(2), 0);
        CheckKit.due("imageWord(-1)", x.imageWord(-1), 0);
        CheckKit.due("imageWord of the least", x.imageWord(Integer.MIN_VALUE), 0);
        CheckKit.due("imageWord of the greatest", x.imageWord(Integer.MAX_VALUE), 0);
        CheckKit.due("imageWord where 8 i runs over", x.imageWord(1 << 29), 0);
        CheckKit.due("the out is not the image", x.outWord(0), 0);
        int size = x.freeze(12, 0, 9);
        CheckKit.due("image after freeze", x.image(), size);
        CheckKit.due("its first word", x.imageWord(0), 0x0000000173717368L);
        CheckKit.due("its size, as it tells it", x.imageWord(5), size);
    }

    private static void patching() {
        FrozenVolume x = new FrozenVolume();
        CheckKit.due("patch of nothing", x.patch(0, 1), BAD);
        CheckKit.feed(x, "abc");
        x.keep(0);
        CheckKit.due("patch", x.patch(1, 0x1234ff), 98);
        CheckKit.due("patch again", x.patch(1, -2), 255);
        CheckKit.due("patch back", x.patch(1, 98), 254);
        CheckKit.due("patch the last", x.patch(2, 0), 99);
        CheckKit.due("patch behind it", x.patch(3, 0), BAD);
        CheckKit.due("patch at -1", x.patch(-1, 0), BAD);
        CheckKit.due("patch at the greatest", x.patch(Integer.MAX_VALUE, 0), BAD);
        CheckKit.due("what was patched", x.imageWord(0), 0x006261);
        CheckKit.due("patch leaves the size", x.image(), 3);
    }

    private static void keeping() {
        FrozenVolume x = new FrozenVolume();
        CheckKit.due("keep nothing of nothing", x.keep(0), 0);
        CheckKit.feed(x, "abc");
        CheckKit.due("keep more than there is", x.keep(1), BAD);
        CheckKit.due("that used the tape up", x.keep(0), 0);
        CheckKit.feed(x, "abc");
        CheckKit.due("keep(-1)", x.keep(-1), BAD);
        CheckKit.feed(x, "abcdefgh");
        CheckKit.due("keep", x.keep(0), 8);
        CheckKit.feed(x, "XY");
        CheckKit.due("keep some, and the tape behind", x.keep(3), 5);
        CheckKit.due("what there is then", x.imageWord(0), 0x5958636261L);
        CheckKit.due("keep all, without a tape", x.keep(5), 5);
        CheckKit.due("keep less", x.keep(2), 2);
        CheckKit.due("what is left", x.imageWord(0), 0x6261L);
        CheckKit.due("keep(the greatest)", x.keep(Integer.MAX_VALUE), BAD);
    }

    private static void keepFull() {
        FrozenVolume x = new FrozenVolume();
        byte[] many = new byte[131072];
        for (int i = 0; i < many.length; i++) {
            many[i] = (byte) (i * 31 + i / 256);
        }
        CheckKit.setImage(x, many);
        CheckKit.due("as many as there may be", x.image(), 131072);
        CheckKit.due("their bytes", CheckKit.image(x), many);
        CheckKit.feed(x, "a");
        CheckKit.due("one more", x.keep(131072), FULL);
        CheckKit.due("changes nothing", x.image(), 131072);
        CheckKit.due("but the tape", x.keep(131071), 131071);
        CheckKit.feed(x, "a");
        CheckKit.due("the last one", x.keep(131071), 131072);
        CheckKit.due("the last word", x.imageWord(16383) >>> 56, 97);
        CheckKit.due("the word behind", x.imageWord(16384), 0);
        CheckKit.due("mount of such bytes", x.mount(), 1);
        many = Arrays.copyOf(many, 5);
        CheckKit.setImage(x, many);
        CheckKit.due("set anew", CheckKit.image(x), many);
    }
}
