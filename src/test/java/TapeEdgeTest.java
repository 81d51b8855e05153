import java.util.Arrays;

/** The edges of promises 1 to 5, each sentence by itself. */
public final class TapeEdgeTest {
    private static final int BAD = FrozenVolume.BAD, NONE = FrozenVolume.NONE, FULL = FrozenVolume.FULL;

    public static void main(String[] args) {
        nothingButTheRoot();
        calls512();
        highestFirst();
        tapeOfMost();
        tapeBetween();
        fullChangesNothing();
        endFrom0To20();
        endKeepsWhatCameBefore();
        endNeedsAFeed();
        endNeedsAFeedThatWasNotFull();
        endAfterTheTapeWasUsedUp();
        usedUpWhateverItAnswers();
        otherCallsLeaveTheTape();
        outAtFirst();
        outOfMost();
        wordsOfTheOut();
        wordsWhereThereAreNone();
        CheckKit.finish("TapeEdgeTest");
    }

    private static int feed(FrozenVolume x) {
        return x.feed(0x61626364, 0x65666768, 0x696a6b6c, 0x6d6e6f70, 0x71727374);
    }

    /** An object whose tape has so many bytes; more calls than are promised, for a tape above 10240. */
    private static FrozenVolume tapeOf(int size) {
        FrozenVolume x = new FrozenVolume();
        feed(x);
        x.end(size % 20);
        for (int i = 0; i < size / 20; i++) {
            feed(x);
        }
        return x;
    }

    private static void nothingButTheRoot() {
        CheckKit.sentence(1, "The root alone, an empty tape, out and image.");
        FrozenVolume x = new FrozenVolume();
        CheckKit.due("out", x.out(), 0);
        CheckKit.due("image", x.image(), 0);
        CheckKit.due("node -1", x.own(-1, 0, 0, 0, 0), BAD);
        CheckKit.due("node 0", x.own(0, 493, 0, 0, 0), 0);
        CheckKit.due("node 1", x.own(1, 0, 0, 0, 0), BAD);
        CheckKit.due("the tape, behind which twenty bytes come", feed(x), 20);
        x.freeze(12, 0, 0);
        x.mount();
        CheckKit.due("the root's kind", x.about(1, 0), 1);
        CheckKit.due("its entries", x.about(1, 9), 0);
        CheckKit.due("no other inode", x.about(2, 0), BAD);
    }

    private static void calls512() {
        CheckKit.sentence(2, "An object is used for at most 512 calls after it has been made");
        FrozenVolume x = new FrozenVolume();
        for (int i = 1; i < 512; i++) {
            feed(x);
        }
        CheckKit.due("the 512th call", feed(x), 10240);
    }

    private static void highestFirst() {
        CheckKit.sentence(2, "Twenty bytes come behind the tape, the highest of each number first");
        FrozenVolume x = new FrozenVolume();
        CheckKit.due("feed", x.feed(0, -1, Integer.MIN_VALUE, Integer.MAX_VALUE, 0x01020304), 20);
        CheckKit.due("keep", x.keep(0), 20);
        CheckKit.due("0 and -1", x.imageWord(0), 0xffffffff00000000L);
        CheckKit.due("the least and the greatest", x.imageWord(1), 0xffffff7f00000080L);
        CheckKit.due("four bytes", x.imageWord(2), 0x04030201L);
    }

    private static void tapeOfMost() {
        CheckKit.sentence(2, "FULL, changing nothing: there would be more than 16384.");
        CheckKit.due("feed behind 16363", feed(tapeOf(16363)), 16383);
        CheckKit.due("feed behind 16364", feed(tapeOf(16364)), 16384);
        CheckKit.due("feed behind 16365", feed(tapeOf(16365)), FULL);
        CheckKit.due("feed behind 16384", feed(tapeOf(16384)), FULL);
        FrozenVolume x = tapeOf(16384);
        CheckKit.due("all of them are read", x.keep(0), 16384);
    }

    private static void tapeBetween() {
        CheckKit.sentence(2, "THE TAPE takes bytes by feed() and end(), 16384 at most");
        for (int size : new int[] {0, 1, 19, 20, 21, 16383, 16384}) {
            FrozenVolume x = tapeOf(size);
            CheckKit.due("a tape of " + size + " is read", x.keep(0), size);
            CheckKit.due("and used up", x.keep(0), 0);
        }
        // Each call that reads it, with the longest tape there is: it is no name, and no path to anything.
        for (int kind = 1; kind <= 7; kind++) {
            CheckKit.due("make of kind " + kind, tapeOf(16384).make(0, kind, 0), BAD);
        }
        CheckKit.due("tie", tapeOf(16384).tie(0, 0), BAD);
        CheckKit.due("drop", tapeOf(16384).drop(0), BAD);
        FrozenVolume y = tapeOf(16384);
        y.freeze(12, 0, 0);
        y.mount();
        CheckKit.due("find", y.find(1), NONE);
        CheckKit.make(y, 0, 2, "f");
        feed(y);
        y.end(4);
        for (int i = 0; i < 819; i++) {
            feed(y);
        }
        CheckKit.due("write", y.write(1), 16384);
    }

    private static void fullChangesNothing() {
        CheckKit.sentence(2, "FULL, changing nothing");
        FrozenVolume x = tapeOf(16365);
        CheckKit.due("feed", x.feed(0, 0, 0, 0, 0), FULL);
        CheckKit.due("feed again", x.feed(0, 0, 0, 0, 0), FULL);
        CheckKit.due("the tape is as long as before", x.keep(0), 16365);
        CheckKit.due("its last bytes", x.imageWord(2045), 0x7473727170L);
        FrozenVolume y = tapeOf(16380);
        CheckKit.due("feed", y.feed(0, 0, 0, 0, 0), FULL);
        CheckKit.due("end is of the feed before", y.end(1), 16361);
        CheckKit.due("and that leaves room", y.feed(0, 0, 0, 0, 0), 16381);
    }

    private static void endFrom0To20() {
        CheckKit.sentence(3, "Of the twenty bytes that came last, the first n (0 .. 20) stay");
        for (int n : new int[] {Integer.MIN_VALUE, -1, 21, Integer.MAX_VALUE}) {
            FrozenVolume x = new FrozenVolume();
            feed(x);
            CheckKit.due("end(" + n + ")", x.end(n), BAD);
            CheckKit.due("which changes nothing", feed(x), 40);
        }
        for (int n : new int[] {0, 1, 2, 19, 20}) {
            FrozenVolume x = new FrozenVolume();
            feed(x);
            CheckKit.due("end(" + n + ")", x.end(n), n);
            CheckKit.due("bytes that stay", x.keep(0), n);
            CheckKit.due("which they are", CheckKit.image(x), Arrays.copyOf(CheckKit.bytes("abcdefghijklmnopqrst"), n));
        }
    }

    private static void endKeepsWhatCameBefore() {
        CheckKit.sentence(3, "how many bytes the tape has");
        for (int n : new int[] {0, 1, 20}) {
            FrozenVolume x = new FrozenVolume();
            feed(x);
            feed(x);
            CheckKit.due("end(" + n + ") of the second twenty", x.end(n), 20 + n);
        }
    }

    private static void endNeedsAFeed() {
        CheckKit.sentence(3, "since the latest end() that was not BAD");
        FrozenVolume x = new FrozenVolume();
        CheckKit.due("end before any feed", x.end(0), BAD);
        CheckKit.due("end(20) before any feed", x.end(20), BAD);
        feed(x);
        CheckKit.due("end that is BAD", x.end(21), BAD);
        CheckKit.due("end behind a BAD one", x.end(20), 20);
        CheckKit.due("end behind one that was not", x.end(20), BAD);
        CheckKit.due("end(0), too", x.end(0), BAD);
        feed(x);
        CheckKit.due("end(0) behind another feed", x.end(0), 20);
        CheckKit.due("and no other", x.end(0), BAD);
    }

    private static void endNeedsAFeedThatWasNotFull() {
        CheckKit.sentence(3, "no feed() that was not FULL came");
        FrozenVolume x = tapeOf(16365);
        CheckKit.due("end", x.end(20), 16365);
        CheckKit.due("a feed that is FULL", feed(x), FULL);
        CheckKit.due("end", x.end(0), BAD);
        FrozenVolume y = tapeOf(16360);
        CheckKit.due("a feed that is not FULL", feed(y), 16380);
        CheckKit.due("one that is", feed(y), FULL);
        CheckKit.due("end", y.end(0), 16360);
    }

    /** The calls that read the tape: 0 to 5 so that they are refused, 6 to 11 so that they are not, or go on at least. */
    private static long reads(FrozenVolume x, int call) {
        switch (call) {
            case 0: return x.make(-1, 2, 0);
            case 1: return x.tie(-1, 0);
            case 2: return x.drop(-1);
            case 3: return x.write(-1);
            case 4: return x.keep(-1);
            case 5: return x.find(-1);
            case 6: return x.make(0, 2, 0);
            case 7: return x.tie(0, 1);
            case 8: return x.drop(0);
            case 9: return x.write(1);
            case 10: return x.keep(0);
            default: return x.find(1);
        }
    }

    private static FrozenVolume withFile() {
        FrozenVolume x = new FrozenVolume();
        CheckKit.make(x, 0, 2, "f");
        x.freeze(12, 0, 0);
        x.mount();
        return x;
    }

    private static void endAfterTheTapeWasUsedUp() {
        CheckKit.sentence(3, "and since the tape was used up.");
        long[] answers = {BAD, BAD, BAD, BAD, BAD, BAD, 2, 2, NONE, 20, 20, NONE};
        for (int call = 0; call < answers.length; call++) {
            FrozenVolume x = withFile();
            feed(x);
            CheckKit.due("call " + call, reads(x, call), answers[call]);
            CheckKit.due("end behind it", x.end(1), BAD);
            CheckKit.due("feed anew", feed(x), 20);
            CheckKit.due("end behind that", x.end(1), 1);
        }
    }

    private static void usedUpWhateverItAnswers() {
        CheckKit.sentence(3, "each call that reads it uses it up, whatever it answers");
        for (int call = 0; call < 12; call++) {
            FrozenVolume x = withFile();
            feed(x);
            feed(x);
            reads(x, call);
            CheckKit.due("the tape is empty behind call " + call, feed(x), 20);
        }
        FrozenVolume x = new FrozenVolume();
        CheckKit.due("a call that reads an empty tape", x.write(0), BAD);
        CheckKit.due("feed", feed(x), 20);
    }

    private static void otherCallsLeaveTheTape() {
        CheckKit.sentence(2, "each call that reads it uses it up");
        FrozenVolume x = withFile();
        feed(x);
        x.out();
        x.outWord(0);
        x.fill(1, 0, 1);
        x.fill(1, 256, 1);
        x.own(1, 0, 0, 0, 0);
        x.about(1, 0);
        x.entry(1, 0);
        x.read(2, 0, 5);
        x.target(1);
        x.place(2);
        x.image();
        x.imageWord(0);
        x.patch(0, 0);
        x.mount();
        x.freeze(12, 0, 0);
        x.freeze(0, 0, 0);
        x.astray();
        CheckKit.due("end behind calls that do not read it", x.end(19), 19);
        CheckKit.due("feed", feed(x), 39);
    }

    /** A volume with a file of 16385 bytes that is mounted: its inode is 2. */
    private static FrozenVolume withBytes() {
        FrozenVolume x = new FrozenVolume();
        CheckKit.make(x, 0, 2, "f");
        x.fill(1, 200, 16384);
        x.fill(1, 201, 1);
        x.freeze(12, 0, 0);
        x.mount();
        return x;
    }

    private static void outAtFirst() {
        CheckKit.sentence(4, "How many bytes the out has.");
        FrozenVolume x = new FrozenVolume();
        CheckKit.due("at first", x.out(), 0);
        CheckKit.due("read that is refused", x.read(2, 0, 1), BAD);
        CheckKit.due("behind it", x.out(), 0);
        x = withBytes();
        CheckKit.due("at first", x.out(), 0);
        for (int n : new int[] {1, 0, 2}) {
            CheckKit.due("read", x.read(2, 0, n), n);
            CheckKit.due("behind read of " + n, x.out(), n);
        }
        CheckKit.due("read that is refused", x.read(2, -1, 5), BAD);
        CheckKit.due("behind it", x.out(), 2);
    }

    private static void outOfMost() {
        CheckKit.sentence(4, "THE OUT has up to 16384 bytes.");
        FrozenVolume x = withBytes();
        CheckKit.due("read 16383", x.read(2, 0, 16383), 16383);
        CheckKit.due("the out", x.out(), 16383);
        CheckKit.due("read 16384", x.read(2, 0, 16384), 16384);
        CheckKit.due("the out", x.out(), 16384);
        CheckKit.due("its last word", x.outWord(2047), 0xc8c8c8c8c8c8c8c8L);
        CheckKit.due("the word behind", x.outWord(2048), 0);
        CheckKit.due("read 16385", x.read(2, 0, 16385), BAD);
        CheckKit.due("the out", x.out(), 16384);
        CheckKit.due("read the last byte", x.read(2, 16384, 16384), 1);
        CheckKit.due("the out", x.out(), 1);
        CheckKit.due("nothing of what it had", x.outWord(0), 201);
        CheckKit.due("nothing behind", x.outWord(2047), 0);
    }

    private static void wordsOfTheOut() {
        CheckKit.sentence(5, "Eight bytes of the out, from 8 i on, the first one lowest, 0 behind its end");
        FrozenVolume x = withBytes();
        long all = 0xc8c8c8c8c8c8c8c8L;
        long[][] due = {{0, 0, 0}, {all & 255, 0, 0}, {all >>> 8, 0, 0}, {all, 0, 0}, {all, all & 255, 0}, {all, all >>> 8, 0}, {all, all, 0}};
        int[] sizes = {0, 1, 7, 8, 9, 15, 16};
        for (int k = 0; k < sizes.length; k++) {
            x.read(2, 0, sizes[k]);
            for (int i = 0; i < 3; i++) {
                CheckKit.due("outWord(" + i + ") of " + sizes[k], x.outWord(i), due[k][i]);
            }
        }
        CheckKit.make(x, 0, 2, "abc\u0001\u007f\u0080\u00ff");
        x.freeze(12, 0, 0);
        x.mount();
        x.entry(1, 0);
        CheckKit.due("bytes of all sorts", x.outWord(0), 0xff807f01636261L);
    }

    private static void wordsWhereThereAreNone() {
        CheckKit.sentence(5, "0 when there are none (i below 0, or any i beyond).");
        FrozenVolume x = new FrozenVolume();
        for (int round = 0; round < 2; round++) {
            int[] none = {Integer.MIN_VALUE, Integer.MIN_VALUE + 1, -(1 << 29), -(1 << 28), -2, -1, 2048, 2049, 1 << 28, 1 << 29,
                (1 << 29) + 1, 3 << 29, Integer.MAX_VALUE};
            for (int i : none) {
                CheckKit.due("outWord(" + i + ")", x.outWord(i), 0);
            }
            CheckKit.due("outWord(0)", x.outWord(0), round == 0 ? 0 : 0xc8c8c8c8c8c8c8c8L);
            x = withBytes();
            x.read(2, 0, 16384);
        }
    }
}
