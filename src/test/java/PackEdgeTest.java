import java.util.Arrays;
import java.util.Random;

/**
 * The edges of promise 12 where a row is packed, each sentence by itself: the rows are the one block of a file, held
 * against those of PackKit byte for byte; and what a sentence names must have come up while they were packed.
 */
public final class PackEdgeTest {
    public static void main(String[] args) {
        PackKit.remembers = true;
        parts();
        threeBytesInItsPart();
        atMost32768Away();
        lengthsAtMost258();
        notBeyondItsPart();
        longestAs285();
        candidatesAtMost16();
        nearestOfSeveral();
        eachLength();
        eachDistance();
        matchesAndBytes();
        countsOfOne();
        twoSymbols();
        limitOf7();
        limitOf15();
        symbolsBeforePairs();
        lesserNumbersFirst();
        smallestCounts();
        stretchesOf0();
        stretchesOfOthers();
        storedIfNoMore();
        bitsBehindMatches();
        storedAtEveryBit();
        fixedIfNoMore();
        checks();
        CheckKit.finish("PackEdgeTest");
    }

    private static void begin(String sentence) {
        CheckKit.sentence(12, sentence);
        CheckKit.forgetMet();
    }

    private static void row(String what, byte[] row) {
        FreezeKit kit = new FreezeKit();
        kit.make(0, 2, 0, "f", "");
        kit.write(1, row);
        kit.check(what, 16, 4, 0);
    }

    private static byte[] random(int seed, int n) {
        return PackKit.sample(new Random(seed), 0, n);
    }

    private static byte[] same(int b, int n) {
        byte[] row = new byte[n];
        Arrays.fill(row, (byte) b);
        return row;
    }

    private static void parts() {
        begin("it is cut in parts of 4096 bytes, the last one what is left.");
        for (int n : new int[] {1, 2, 3, 4095, 4096, 4097, 8191, 8192, 8193}) {
            row(n + " bytes", PackKit.sample(new Random(n), 5, n));
            row(n + " bytes that are the same", same(7, n));
        }
        CheckKit.dueMet("bytes of a part:", 1, 2, 3, 4095, 4096);
    }

    private static void threeBytesInItsPart() {
        begin("A MATCH at a place p, from which on there are three bytes in its part");
        for (int left = 1; left <= 4; left++) {
            for (int size : new int[] {4096, 4097, 5000}) {
                // The last bytes of the first part are the row's first ones, and so are those behind them.
                byte[] row = random(left, size);
                byte[] first = Arrays.copyOf(row, 20);
                System.arraycopy(first, 0, row, 4096 - left, Math.min(20, size - (4096 - left)));
                row("the same " + left + " bytes at a part's end, of " + size, row);
            }
            byte[] row = random(left, 100);
            System.arraycopy(row, 0, row, 100 - left, left);
            row("the same " + left + " bytes at the row's end", row);
        }
        CheckKit.dueMet("bytes left at a match:", 3, 4);
        CheckKit.dueMet("bytes left without a match:", 1, 2, 3);
        CheckKit.dueMet("length", 3, 4);
    }

    private static void atMost32768Away() {
        begin("is with a place q before it, at most 32768 away, when three bytes from q on are those from p on");
        for (int distance = 32766; distance <= 32770; distance++) {
            byte[] row = random(5, distance + 40);
            System.arraycopy(row, 0, row, distance, 40);
            row("the same " + distance + " away", row);
        }
        CheckKit.dueMet("distance", 32767, 32768);
        CheckKit.dueMet("a longer match that is no candidate, so far away:", 32769, 32770);
    }

    private static void lengthsAtMost258() {
        begin("its LENGTH is how many bytes from both on are the same, at most 258, and not beyond p's part.");
        for (int n = 255; n <= 264; n++) {
            row(n + " that are the same", same(7, n));
            byte[] row = random(n, 700);
            System.arraycopy(row, 0, row, 300, n);
            row[300 + n] = (byte) (row[n] + 1);
            row(n + " that are the same, farther away", row);
        }
        CheckKit.dueMet("length", 256, 257, 258);
        CheckKit.dueMet("a match that goes on behind 258:", 1);
    }

    private static void notBeyondItsPart() {
        begin("and not beyond p's part.");
        for (int before = 2; before <= 6; before++) {
            byte[] row = random(before, 5000);
            System.arraycopy(row, 0, row, 4096 - before, 50);
            row("a match from " + before + " before a part's end on", row);
        }
        row("the same bytes over two parts", same(9, 8000));
        CheckKit.dueMet("a match that goes on behind its part:", 1);
        CheckKit.dueMet("bytes left at a match:", 3);
        CheckKit.dueMet("bytes left without a match:", 2);
        // The place before it may begin in another part, and its three bytes may be in two.
        byte[] row = random(77, 6000);
        System.arraycopy(row, 4094, row, 5000, 30);
        row("a match with bytes of two parts", row);
    }

    private static void longestAs285() {
        begin("the best match's length (258 as 285, not as 284 with 31 more)");
        row("a match of 257", same(3, 258));
        row("a match of 258", same(3, 259));
        CheckKit.dueMet("length", 257, 258);
        byte[] packed = PackKit.pack(same(3, 259));
        // A byte 3, symbol 285 and distance 0, and 256, by fixed codes: 8, 8, 5 and 7 bits behind the first three.
        CheckKit.due("bytes of it", packed.length, 2 + (3 + 8 + 8 + 5 + 7 + 7) / 8 + 4);
    }

    private static void candidatesAtMost16() {
        begin("Its CANDIDATES are the latest (most near) of such places, at most 16 of them; the BEST one is that of greatest length");
        for (int near = 13; near <= 18; near++) {
            // The farthest place has the longest match; so many nearer ones have just three bytes.
            byte[] row = random(near, 1000);
            byte[] text = CheckKit.bytes("abcdefghijklmnop");
            System.arraycopy(text, 0, row, 50, 16);
            for (int k = 0; k < near; k++) {
                System.arraycopy(text, 0, row, 100 + 30 * k, 3);
            }
            System.arraycopy(text, 0, row, 900, 16);
            row(near + " nearer places", row);
            CheckKit.dueMet("candidates:", Math.min(16, near + 1));
            CheckKit.dueMet("length", near < 16 ? 16 : 3);
            CheckKit.dueMet(near < 16 ? "distance" : "a longer match that is no candidate, so far away:", 850);
            CheckKit.forgetMet();
        }
    }

    private static void nearestOfSeveral() {
        begin("the BEST one is that of greatest length, of several the nearest one.");
        byte[] row = random(1, 400);
        for (int at : new int[] {10, 110, 210, 310}) {
            System.arraycopy(CheckKit.bytes("just the same"), 0, row, at, 13);
        }
        row("three places that are as good", row);
        CheckKit.dueMet("distance", 100);
        CheckKit.dueMet("a match that is as long, but farther:", 1);
        System.arraycopy(CheckKit.bytes("j"), 0, row, 323, 1);
        row[123] = 106;
        row("a farther one that is longer by a byte", row);
        CheckKit.dueMet("distance", 200);
        CheckKit.dueMet("length", 13, 14);
    }

    private static void eachLength() {
        begin("s from 257 to 285 is a LENGTH");
        for (int n = 3; n <= 258; n++) {
            byte[] row = random(n, 600);
            System.arraycopy(row, 0, row, 300, n);
            row[300 + n] = (byte) (row[n] + 1);
            row("a match of " + n, row);
            CheckKit.dueMet("length", n);
        }
    }

    private static void eachDistance() {
        begin("Then comes the code of a DISTANCE d: for 0 .. 3 d + 1; otherwise e = d / 2 - 1, 1 + (2 + d % 2) shifted left by e, and a number of e bits more.");
        for (int d = 0; d < 30; d++) {
            int e = d < 4 ? 0 : d / 2 - 1;
            int least = d < 4 ? d + 1 : 1 + (2 + d % 2 << e);
            for (int distance : new int[] {least, least + (1 << e) - 1}) {
                byte[] row = random(d, distance + 30);
                for (int i = 0; i < 20; i++) {
                    row[distance + i] = row[i];
                }
                row("the same " + distance + " away", row);
                CheckKit.dueMet("distance", distance);
            }
        }
    }

    private static void matchesAndBytes() {
        begin("if there is no best match at p, its byte is a symbol; otherwise the best match's length (258 as 285, not as 284 with 31 more) and distance, and p goes on behind it.");
        // Places within a match are places for later ones, too.
        byte[] row = CheckKit.bytes("abcdefgh-abcdefgh-bcdefghi-cdefghij-defg-abcabcabcabc-cabcab");
        row("matches that begin within others", row);
        for (int n = 1; n <= 8; n++) {
            row("one byte, " + n + " times", same(200, n));
            row("two bytes, by turns", Arrays.copyOf(CheckKit.bytes("xyxyxyxyxyxyxyxy"), n + 2));
        }
        CheckKit.dueMet("length", 0, 3, 4, 5, 6, 7);
        CheckKit.dueMet("distance", 1, 2);
    }

    private static void twoSymbols() {
        begin("Of the last list the first 2 m - 2 items are taken, m being how many symbols have counts");
        // One byte and 256; one byte, a length and 256; and so on.
        row("one byte", new byte[] {5});
        row("one byte, four times", same(5, 4));
        for (int kinds = 1; kinds <= 40; kinds++) {
            byte[] row = new byte[2000];
            Random random = new Random(kinds);
            for (int i = 0; i < row.length; i++) {
                row[i] = (byte) (100 + random.nextInt(kinds));
            }
            row(kinds + " kinds of bytes", row);
        }
        CheckKit.dueMet("symbols with counts, limit 15:", 0, 1, 2, 3);
    }

    private static void countsOfOne() {
        begin("none for a count 0; 1, when there is just one that is not");
        // Made parts, since there are many bytes of few kinds: without a match, with matches of one distance, and of two.
        byte[] none = new byte[255];
        for (int i = 0; i < none.length; i++) {
            none[i] = (byte) (i * i % 251 % 16);
        }
        Random random = new Random(3);
        for (int k = 0; k < 60; k++) {
            byte[] row = new byte[60 + 5 * k];
            for (int i = 0; i < row.length; i++) {
                row[i] = (byte) (k % 3 == 0 ? random.nextInt(64) : i % 37 < 30 || k % 3 == 1 ? i % 37 * 7 : random.nextInt(256));
            }
            row("few matches, " + k, row);
        }
        row("squares", none);
        CheckKit.dueMet("symbols with counts, limit 15:", 0, 1, 2);
        CheckKit.dueMet("the longest code, limit 15:", 0, 1, 3);
    }

    private static void limitOf7() {
        begin("LENGTHS of codes for counts, with a limit (15, and 7 for the 19)");
        for (int seed = 0; seed < 150; seed++) {
            Random random = new Random(seed);
            byte[] row = new byte[4096];
            double steep = 3 + random.nextDouble() * 40;
            for (int i = 0; i < row.length; i++) {
                row[i] = (byte) Math.min(255, (int) (-Math.log(1 - random.nextDouble()) * steep));
            }
            row("bytes of falling counts, " + seed, row);
        }
        CheckKit.dueMet("the longest code without limit, limit 7:", 6, 7, 8);
        CheckKit.dueMet("the longest code, limit 7:", 6, 7);
    }

    /** Codes above 15 would take counts that rise as steeply as no part of 4096 bytes can have them: long ones are tested. */
    private static void limitOf15() {
        begin("LENGTHS of codes for counts, with a limit (15, and 7 for the 19)");
        for (int seed = 0; seed < 40; seed++) {
            Random random = new Random(seed);
            byte[] row = new byte[4096];
            int at = 0;
            // Each next byte is so many times as frequent as the one before.
            for (int b = 0; at < row.length; b++) {
                int many = Math.max(1, (int) Math.pow(1.45 + seed % 10 * 0.02, b));
                for (int i = 0; i < many && at < row.length; i++) {
                    row[at++] = (byte) b;
                }
            }
            for (int i = row.length - 1; i > 0; i--) {
                int other = random.nextInt(i + 1);
                byte b = row[i];
                row[i] = row[other];
                row[other] = b;
            }
            row("bytes of rising counts, " + seed, row);
        }
        CheckKit.dueMet("the longest code, limit 15:", 10, 11);
    }

    private static void symbolsBeforePairs() {
        begin("by rising counts, of the same a symbol before pairs, pairs in their order.");
        for (int seed = 0; seed < 60; seed++) {
            row("few bytes, " + seed, PackKit.sample(new Random(seed), 1 + seed % 5, 100 + 10 * seed));
        }
        CheckKit.dueMet("other lengths with pairs before symbols:", 1);
    }

    private static void lesserNumbersFirst() {
        begin("the first one has the symbols with counts, by rising counts, the same by number");
        for (int seed = 0; seed < 60; seed++) {
            row("few bytes, " + seed, PackKit.sample(new Random(1000 + seed), 1 + seed % 5, 100 + 10 * seed));
        }
        CheckKit.dueMet("other lengths with greater numbers first:", 1);
    }

    private static void smallestCounts() {
        begin("A made part has h and d as small as the lengths that are not 0 allow, c likewise");
        for (int seed = 0; seed < 200; seed++) {
            Random random = new Random(seed);
            // Bytes of few kinds, matches of any length up to 258, and distances up to the farthest.
            byte[] row = new byte[seed < 8 ? 36864 : 3000];
            for (int i = 0; i < row.length; i++) {
                row[i] = (byte) (seed < 8 && i < 32768 ? random.nextInt(256) : random.nextInt(1 + seed % 60));
            }
            for (int k = 0; k < seed % 8; k++) {
                int from = seed < 8 ? random.nextInt(4000) : random.nextInt(1000);
                int to = row.length - 2000 + random.nextInt(1700);
                System.arraycopy(row, from, row, to, 3 + random.nextInt(256));
            }
            row("made parts, " + seed, row);
        }
        row("matches of 258", FreezeKit.join(PackKit.sample(new Random(4), 3, 2000), same(5, 1000)));
        CheckKit.dueMet("h", 0, 1, 29);
        CheckKit.dueMet("d", 0, 28, 29);
        CheckKit.dueMet("c", 5, 7, 10, 12, 14);
    }

    /** Two sets of bytes with so many between them that do not come: these have the length 0. */
    private static void stretchesOf0() {
        begin("of a stretch of the same ones, as long as it goes, 0 by 18 as often as 11 are left (138 at most each), then by 17 if 3 are left, then one by one");
        int[] edges = {1, 2, 3, 4, 9, 10, 11, 12, 13, 14, 15, 21, 22, 23, 137, 138, 139, 140, 141, 142, 147, 148, 149, 150, 151, 152, 200};
        for (int n : edges) {
            Random random = new Random(n);
            byte[] row = new byte[3000];
            for (int i = 0; i < row.length; i++) {
                int b = random.nextInt(40);
                row[i] = (byte) (b < 20 ? b : b + n);
            }
            row("a stretch of " + n, row);
        }
        CheckKit.dueMet("a stretch of 0:", edges);
    }

    /** So many bytes, all as frequent, before others that are more frequent. */
    private static void stretchesOfOthers() {
        begin("others once, then by 16 as often as 3 are left (6 at most each), then one by one");
        for (int n = 1; n <= 20; n++) {
            for (int seed = 0; seed < 8; seed++) {
                Random random = new Random(seed);
                byte[] row = new byte[2500];
                for (int i = 0; i < row.length; i++) {
                    int b = random.nextInt(4 * n + 40);
                    row[i] = (byte) (b < n ? b : n + 5 + (b - n) % (3 + seed));
                }
                row("bytes that are as frequent: " + n, row);
            }
        }
        CheckKit.dueMet("a stretch of others:", 1, 2, 3, 4, 5, 6, 7, 8, 9, 10, 11, 12, 13);
    }

    private static byte[] lastPart(int k) {
        Random random = new Random(k);
        byte[] first = new byte[4096];
        Arrays.fill(first, 0, 1 + random.nextInt(4000), (byte) random.nextInt(256));
        byte[] last = new byte[k % 2 == 0 ? 20 + random.nextInt(20) : 1 + random.nextInt(150)];
        for (int i = 0; i < last.length; i++) {
            last[i] = (byte) (k % 2 == 0 ? 144 + random.nextInt(112) : random.nextInt(2 + k / 10 % 50));
        }
        return FreezeKit.join(first, last);
    }

    private static void storedIfNoMore() {
        begin("A part is stored, if that takes no more bits (its first three and those up to the end of a byte among them) than the others");
        for (int k = 0; k < 600; k += 2) {
            row("a last part, " + k, lastPart(k));
        }
        CheckKit.dueMet("bits that another sort takes more than stored:", -1, 0, 1);
        // Seeds whose parts made takes from 1 bit less to 1 bit more than stored, and fixed more than both.
        for (int k : new int[] {713, 815, 820, 936, 955, 1575, 1640, 1753, 2361, 2377, 2488, 2490}) {
            Random random = new Random(k);
            byte[] row = new byte[300 + random.nextInt(900)];
            int kinds = 150 + random.nextInt(100);
            for (int i = 0; i < row.length; i++) {
                row[i] = (byte) random.nextInt(kinds);
            }
            row("bytes of " + kinds + " kinds", row);
            // Behind a first part, which packing makes shorter in any case, the last one shows its sort.
            row("the same behind others", FreezeKit.join(new byte[4096], row));
        }
        CheckKit.dueMet("bits that made takes more than stored, and fixed more than both:", -1, 0, 1);
    }

    /** Last parts with matches far away, whose many bits more are among those that a part takes. */
    private static void bitsBehindMatches() {
        begin("A part is stored, if that takes no more bits (its first three and those up to the end of a byte among them) than the others");
        for (int k = 0; k < 160; k++) {
            Random random = new Random(k);
            byte[] row = new byte[4096 + 30 + random.nextInt(20)];
            for (int i = 0; i < row.length; i++) {
                row[i] = (byte) (144 + random.nextInt(112));
            }
            for (int i = 0; i <= k % 3; i++) {
                System.arraycopy(row, random.nextInt(2000), row, 4096 + random.nextInt(row.length - 4096 - 3), 3);
            }
            row("a last part with matches, " + k, row);
        }
        CheckKit.dueMet("bits that another sort takes more than stored, with matches far away:", -1, 0, 1);
    }

    private static void storedAtEveryBit() {
        begin("STORED (0): bits up to the end of the byte (whatever they are; 0 when a row is packed), a number n of 16 bits");
        for (int seed = 0; seed < 40; seed++) {
            Random random = new Random(seed);
            row("a stored part behind a made one, " + seed, FreezeKit.join(PackKit.sample(random, 1 + seed % 5, 4096), random(seed, 4096), random(seed, 30)));
        }
        CheckKit.dueMet("bits of a byte before a stored part:", 0, 1, 2, 3, 4, 5, 6, 7);
    }

    private static void fixedIfNoMore() {
        begin("otherwise fixed, if that takes no more than made, otherwise made.");
        // Seeds whose parts come near: made takes from 2 bits less to 2 bits more than fixed.
        for (int k : new int[] {129, 373, 799, 995, 1009, 1051, 1247, 1381, 1397, 1429, 1501, 1507, 1617, 1751, 1899, 1931, 2001, 2009,
            2029, 2283, 2409, 2629, 2677, 2851, 2857, 3001}) {
            row("a last part, " + k, lastPart(k));
        }
        CheckKit.dueMet("bits that made takes more than fixed:", -1, 0, 1);
    }

    private static void checks() {
        begin("then the CHECK in four bytes, the highest first: 65536 b + a");
        for (int sum : new int[] {65519, 65520, 65521, 65522, 131041, 131042}) {
            byte[] row = same(255, sum / 255 + 1);
            row[row.length - 1] = (byte) (sum % 255);
            row("a sum of " + sum, row);
        }
        row("the greatest row", same(255, 65536));
    }
}
