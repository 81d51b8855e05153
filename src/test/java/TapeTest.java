/** Promises 1 to 5: a new object, feed, end, out, outWord. */
public final class TapeTest {
    public static void main(String[] args) {
        newObject();
        feeding();
        ending();
        usedUp();
        tapeFull();
        outWords();
        CheckKit.finish("TapeTest");
    }

    private static void newObject() {
        FrozenVolume x = new FrozenVolume();
        CheckKit.due("new: out", x.out(), 0);
        CheckKit.due("new: outWord", x.outWord(0), 0);
        CheckKit.due("new: image", x.image(), 0);
        CheckKit.due("new: imageWord", x.imageWord(0), 0);
        CheckKit.due("new: astray", x.astray(), FrozenVolume.NONE);
        CheckKit.due("new: end", x.end(0), FrozenVolume.BAD);
        CheckKit.due("new: node 0 is there", x.own(0, 0, 0, 0, 0), 0);
        CheckKit.due("new: node 1 is not", x.own(1, 0, 0, 0, 0), FrozenVolume.BAD);
        CheckKit.due("new: the tape is empty", x.make(0, 2, 0), FrozenVolume.BAD);
        CheckKit.due("new: not mounted", x.about(1, 0), FrozenVolume.BAD);
        CheckKit.due("new: the root is a directory", CheckKit.make(x, 0, 1, "d"), 1);
        FrozenVolume y = new FrozenVolume();
        CheckKit.due("new: freeze", y.freeze(12, 0, 0) > 96 ? 1 : 0, 1);
        CheckKit.due("new: mount", y.mount(), 0);
        CheckKit.due("new: the root's mode", y.about(1, 1), 493);
        CheckKit.due("new: the root's owner", y.about(1, 2), 0);
        CheckKit.due("new: the root has no entries", y.about(1, 9), 0);
    }

    private static void feeding() {
        FrozenVolume x = new FrozenVolume();
        CheckKit.due("feed", x.feed(0x61626364, 0x65666768, -2, 1, 0x7f800000), 20);
        CheckKit.due("feed again", x.feed(1, 2, 3, 4, 5), 40);
        x.keep(0);
        CheckKit.due("fed bytes, highest first", x.imageWord(0), 0x6867666564636261L);
        CheckKit.due("fed bytes of a number below 0", x.imageWord(1), 0x01000000feffffffL);
        CheckKit.due("fed bytes behind", x.imageWord(2), 0x010000000000807fL);
    }

    private static void ending() {
        FrozenVolume x = new FrozenVolume();
        x.feed(0x61626364, 0, 0, 0, 0);
        CheckKit.due("end(-1)", x.end(-1), FrozenVolume.BAD);
        CheckKit.due("end(21)", x.end(21), FrozenVolume.BAD);
        CheckKit.due("end after a BAD one", x.end(3), 3);
        CheckKit.due("end twice", x.end(3), FrozenVolume.BAD);
        x.feed(0x65666768, 0, 0, 0, 0);
        CheckKit.due("end(20)", x.end(20), 23);
        x.feed(0x65666768, 0, 0, 0, 0);
        CheckKit.due("end(0)", x.end(0), 23);
        CheckKit.due("end after end(0)", x.end(0), FrozenVolume.BAD);
        CheckKit.due("keep tells what stayed", x.keep(0), 23);
        CheckKit.due("the first ones stayed", x.imageWord(0), 0x0068676665636261L);
    }

    private static void usedUp() {
        FrozenVolume x = new FrozenVolume();
        x.feed(0x61626364, 0, 0, 0, 0);
        CheckKit.due("write is BAD", x.write(5), FrozenVolume.BAD);
        CheckKit.due("the tape was used up all the same", x.end(1), FrozenVolume.BAD);
        CheckKit.due("feed begins anew", x.feed(0, 0, 0, 0, 0), 20);
        CheckKit.due("find is BAD", x.find(1), FrozenVolume.BAD);
        CheckKit.due("feed after find", x.feed(0, 0, 0, 0, 0), 20);
        x.drop(7);
        CheckKit.due("feed after drop", x.feed(0, 0, 0, 0, 0), 20);
        x.tie(7, 7);
        CheckKit.due("feed after tie", x.feed(0, 0, 0, 0, 0), 20);
        x.make(7, 7, 7);
        CheckKit.due("feed after make", x.feed(0, 0, 0, 0, 0), 20);
        x.keep(7);
        CheckKit.due("feed after keep", x.feed(0, 0, 0, 0, 0), 20);
        x.fill(7, 7, 7);
        x.own(0, 1, 1, 1, 1);
        x.freeze(12, 0, 0);
        x.mount();
        x.read(1, 0, 1);
        x.patch(0, 0);
        CheckKit.due("other calls leave the tape", x.feed(0, 0, 0, 0, 0), 40);
    }

    private static void tapeFull() {
        FrozenVolume x = new FrozenVolume();
        for (int i = 1; i <= 819; i++) {
            CheckKit.due("feed " + i, x.feed(i, i, i, i, i), 20 * i);
        }
        CheckKit.due("feed beyond", x.feed(0, 0, 0, 0, 0), FrozenVolume.FULL);
        CheckKit.due("end behind a FULL feed is that of the one before", x.end(4), 16364);
        CheckKit.due("just as much as there may be", x.feed(0, 0, 0, 0, 0), 16384);
        CheckKit.due("feed beyond that", x.feed(0, 0, 0, 0, 0), FrozenVolume.FULL);
        CheckKit.due("end(0) of a full tape", x.end(0), 16364);
        CheckKit.due("feed, filling it", x.feed(0, 0, 0, 0, 0), 16384);
        CheckKit.due("end(20)", x.end(20), 16384);
        CheckKit.due("a FULL feed", x.feed(0, 0, 0, 0, 0), FrozenVolume.FULL);
        CheckKit.due("is none that end could shorten", x.end(1), FrozenVolume.BAD);
    }

    private static void outWords() {
        FrozenVolume x = new FrozenVolume();
        CheckKit.make(x, 0, CheckKit.FILE, "f");
        CheckKit.write(x, 1, CheckKit.bytes("abcdefghijk\u00ff"));
        x.freeze(12, 0, 0);
        x.mount();
        CheckKit.due("read", x.read(2, 0, 100), 12);
        CheckKit.due("out", x.out(), 12);
        CheckKit.due("outWord(0)", x.outWord(0), 0x6867666564636261L);
        CheckKit.due("outWord(1)", x.outWord(1), 0xff6b6a69L);
        CheckKit.due("outWord(2)", x.outWord(2), 0);
        CheckKit.due("outWord(-1)", x.outWord(-1), 0);
        CheckKit.due("outWord of the least", x.outWord(Integer.MIN_VALUE), 0);
        CheckKit.due("outWord of the greatest", x.outWord(Integer.MAX_VALUE), 0);
        CheckKit.due("outWord where 8 i runs over", x.outWord(1 << 29), 0);
        CheckKit.due("read less", x.read(2, 4, 3), 3);
        CheckKit.due("nothing is left behind it", x.outWord(0), 0x676665);
        CheckKit.due("read nothing", x.read(2, 0, 0), 0);
        CheckKit.due("an empty out", x.out(), 0);
        CheckKit.due("its words", x.outWord(0), 0);
    }
}
