import java.io.ByteArrayOutputStream;
import java.util.ArrayList;
import java.util.Arrays;
import java.util.Comparator;
import java.util.HashMap;
import java.util.List;
import java.util.Map;
import java.util.zip.Adler32;

/** Packed rows made just as the document tells it, without a thought of speed: what the program's are held against. */
final class PackKit {
    static final int[] ORDER = {16, 17, 18, 0, 8, 7, 9, 6, 10, 5, 11, 4, 12, 3, 13, 2, 14, 1, 15};
    private static final Map<String, byte[]> MADE = new HashMap<>();
    /** Whether it is remembered which edges came up, which takes some time. */
    static boolean remembers;

    private PackKit() {
    }

    /** Bits in the order in which they are read. */
    static final class Bits {
        final StringBuilder bits = new StringBuilder();

        void number(int n, int many) {
            for (int i = 0; i < many; i++) {
                bits.append((char) ('0' + (n >> i & 1)));
            }
        }

        void code(int code, int length) {
            for (int i = length - 1; i >= 0; i--) {
                bits.append((char) ('0' + (code >> i & 1)));
            }
        }

        void align(int padding) {
            while (bits.length() % 8 != 0) {
                bits.append((char) ('0' + padding));
            }
        }

        byte[] bytes() {
            align(0);
            byte[] bytes = new byte[bits.length() / 8];
            for (int i = 0; i < bits.length(); i++) {
                bytes[i / 8] |= (byte) (bits.charAt(i) - '0' << i % 8);
            }
            return bytes;
        }
    }

    /** An item of a list of counts: a symbol, or a pair. */
    private static final class Item {
        final int count;
        final int symbol;
        final Item one;
        final Item two;

        Item(int count, int symbol, Item one, Item two) {
            this.count = count;
            this.symbol = symbol;
            this.one = one;
            this.two = two;
        }

        void take(int[] lengths) {
            if (one == null) {
                lengths[symbol]++;
            } else {
                one.take(lengths);
                two.take(lengths);
            }
        }
    }

    static int[] lengths(int[] counts, int limit) {
        int[] lengths = lengths(counts, limit, true, true);
        if (remembers) {
            CheckKit.met("symbols with counts, limit " + limit + ":", (int) Arrays.stream(counts).filter(c -> c > 0).count());
            CheckKit.met("the longest code, limit " + limit + ":", Arrays.stream(lengths).max().getAsInt());
            CheckKit.met("the longest code without limit, limit " + limit + ":", Arrays.stream(lengths(counts, 30, true, true)).max().getAsInt());
            CheckKit.met("other lengths with pairs before symbols:", Arrays.equals(lengths, lengths(counts, limit, false, true)) ? 0 : 1);
            CheckKit.met("other lengths with greater numbers first:", Arrays.equals(lengths, lengths(counts, limit, true, false)) ? 0 : 1);
        }
        return lengths;
    }

    private static int[] lengths(int[] counts, int limit, boolean symbolsFirst, boolean lesserFirst) {
        List<Item> symbols = new ArrayList<>();
        for (int s = 0; s < counts.length; s++) {
            if (counts[s] > 0) {
                symbols.add(new Item(counts[s], s, null, null));
            }
        }
        symbols.sort(Comparator.comparingInt((Item i) -> i.count).thenComparingInt(i -> lesserFirst ? i.symbol : -i.symbol));
        int[] lengths = new int[counts.length];
        if (symbols.size() == 1) {
            lengths[symbols.get(0).symbol] = 1;
        }
        if (symbols.size() < 2) {
            return lengths;
        }
        List<Item> list = symbols;
        for (int k = 1; k < limit; k++) {
            List<Item> next = new ArrayList<>();
            for (int i = 0; i + 1 < list.size(); i += 2) {
                next.add(new Item(list.get(i).count + list.get(i + 1).count, -1, list.get(i), list.get(i + 1)));
            }
            next.addAll(symbolsFirst ? 0 : next.size(), symbols);
            next.sort(Comparator.comparingInt(i -> i.count));
            list = next;
        }
        for (Item item : list.subList(0, 2 * symbols.size() - 2)) {
            item.take(lengths);
        }
        return lengths;
    }

    static int[] codes(int[] lengths) {
        int[] codes = new int[lengths.length];
        int code = 0;
        for (int length = 1; length <= 15; length++) {
            code <<= 1;
            for (int s = 0; s < lengths.length; s++) {
                if (lengths[s] == length) {
                    codes[s] = code++;
                }
            }
        }
        return codes;
    }

    static int[] fixedSymbols() {
        int[] lengths = new int[288];
        Arrays.fill(lengths, 0, 144, 8);
        Arrays.fill(lengths, 144, 256, 9);
        Arrays.fill(lengths, 256, 280, 7);
        Arrays.fill(lengths, 280, 288, 8);
        return lengths;
    }

    static int[] fixedDistances() {
        int[] lengths = new int[32];
        Arrays.fill(lengths, 5);
        return lengths;
    }

    /** The symbol of a length, how many bits follow it, and what these tell. */
    static int[] lengthSymbol(int length) {
        if (length == 258) {
            return new int[] {285, 0, 0};
        }
        for (int s = 257; ; s++) {
            int e = s < 265 ? 0 : (s - 261) / 4;
            int base = s < 265 ? s - 254 : 3 + (4 + (s - 261) % 4 << e);
            if (length < base + (1 << e)) {
                return new int[] {s, e, length - base};
            }
        }
    }

    static int[] distanceSymbol(int distance) {
        for (int d = 0; ; d++) {
            int e = d < 4 ? 0 : d / 2 - 1;
            int base = d < 4 ? d + 1 : 1 + (2 + d % 2 << e);
            if (distance < base + (1 << e)) {
                return new int[] {d, e, distance - base};
            }
        }
    }

    private static int three(byte[] row, int at) {
        return (row[at] & 255) << 16 | (row[at + 1] & 255) << 8 | row[at + 2] & 255;
    }

    /** Of one part: {0, byte} or {length, distance}. */
    static List<int[]> matches(byte[] row, int begin, int end) {
        List<int[]> tokens = new ArrayList<>();
        Map<Integer, List<Integer>> places = new HashMap<>();
        int known = 0;
        for (int p = begin; p < end; ) {
            List<Integer> before = List.of();
            if (p + 3 <= end) {
                for (; known < p; known++) {
                    places.computeIfAbsent(three(row, known), k -> new ArrayList<>()).add(known);
                }
                before = places.getOrDefault(three(row, p), before);
            }
            int best = 0;
            int distance = 0;
            int candidates = 0;
            for (int i = before.size() - 1; i >= 0 && p - before.get(i) <= 32768 && candidates < 16; i--) {
                int q = before.get(i);
                int length = 0;
                while (length < 258 && p + length < end && row[q + length] == row[p + length]) {
                    length++;
                }
                candidates++;
                if (length > best) {
                    best = length;
                    distance = p - q;
                }
            }
            if (remembers) {
                rememberMatch(row, p, end, best, distance, candidates);
            }
            tokens.add(best == 0 ? new int[] {0, row[p] & 255} : new int[] {best, distance});
            p += Math.max(1, best);
        }
        return tokens;
    }

    private static void rememberMatch(byte[] row, int p, int end, int best, int distance, int candidates) {
        CheckKit.met(best == 0 ? "bytes left without a match:" : "bytes left at a match:", end - p);
        CheckKit.met("candidates:", candidates);
        CheckKit.met("length", best);
        CheckKit.met("distance", distance);
        boolean more = best > 0 && p + best < row.length && row[p - distance + best] == row[p + best];
        CheckKit.met("a match that goes on behind its part:", more && p + best == end ? 1 : 0);
        CheckKit.met("a match that goes on behind 258:", more && best == 258 ? 1 : 0);
        // Near places, and those that are just too far: to look at all would take too long.
        for (int away = 1; away <= 32770; away = away == 1000 ? 32769 : away + 1) {
            int q = p - away;
            int length = 0;
            while (q >= 0 && length < 258 && p + length < end && row[q + length] == row[p + length]) {
                length++;
            }
            if (length > 2 && length > best) {
                CheckKit.met("a longer match that is no candidate, so far away:", away);
            }
            if (best > 0 && length == best && away > distance) {
                CheckKit.met("a match that is as long, but farther:", 1);
            }
        }
    }

    static void putSymbols(Bits to, List<int[]> tokens, int[] symbols, int[] distances) {
        int[] symbolCodes = codes(symbols);
        int[] distanceCodes = codes(distances);
        for (int[] token : tokens) {
            int[] symbol = token[0] == 0 ? new int[] {token[1], 0, 0} : lengthSymbol(token[0]);
            to.code(symbolCodes[symbol[0]], symbols[symbol[0]]);
            to.number(symbol[2], symbol[1]);
            if (token[0] > 0) {
                int[] distance = distanceSymbol(token[1]);
                to.code(distanceCodes[distance[0]], distances[distance[0]]);
                to.number(distance[2], distance[1]);
            }
        }
        to.code(symbolCodes[256], symbols[256]);
    }

    /** Of a row of lengths: {what it is told by, how many bits follow, what these tell}. */
    private static List<int[]> tell(int[] row) {
        List<int[]> told = new ArrayList<>();
        for (int i = 0; i < row.length; ) {
            int n = 1;
            while (i + n < row.length && row[i + n] == row[i]) {
                n++;
            }
            int left = n;
            if (remembers) {
                CheckKit.met(row[i] == 0 ? "a stretch of 0:" : "a stretch of others:", n);
            }
            if (row[i] == 0) {
                for (; left >= 11; left -= Math.min(138, left)) {
                    told.add(new int[] {18, 7, Math.min(138, left) - 11});
                }
                if (left >= 3) {
                    told.add(new int[] {17, 3, left - 3});
                    left = 0;
                }
            } else {
                told.add(new int[] {row[i], 0, 0});
                left--;
                for (; left >= 3; left -= Math.min(6, left)) {
                    told.add(new int[] {16, 2, Math.min(6, left) - 3});
                }
            }
            for (; left > 0; left--) {
                told.add(new int[] {row[i], 0, 0});
            }
            i += n;
        }
        return told;
    }

    private static int last(int[] lengths, int least) {
        int last = least;
        for (int i = 0; i < lengths.length; i++) {
            if (lengths[i] > 0) {
                last = Math.max(last, i);
            }
        }
        return last;
    }

    private static void putMade(Bits to, List<int[]> tokens) {
        int[] counts = new int[286];
        int[] distanceCounts = new int[30];
        counts[256]++;
        for (int[] token : tokens) {
            counts[token[0] == 0 ? token[1] : lengthSymbol(token[0])[0]]++;
            if (token[0] > 0) {
                distanceCounts[distanceSymbol(token[1])[0]]++;
            }
        }
        int[] symbols = lengths(counts, 15);
        int[] distances = lengths(distanceCounts, 15);
        int h = last(symbols, 0) - 256;
        int d = last(distances, 0);
        int[] row = Arrays.copyOf(symbols, h + 257 + d + 1);
        System.arraycopy(distances, 0, row, h + 257, d + 1);
        List<int[]> told = tell(row);
        int[] tellerCounts = new int[19];
        for (int[] one : told) {
            tellerCounts[one[0]]++;
        }
        int[] tellers = lengths(tellerCounts, 7);
        int[] ordered = new int[19];
        for (int i = 0; i < 19; i++) {
            ordered[i] = tellers[ORDER[i]];
        }
        int c = last(ordered, 3) - 3;
        if (remembers) {
            CheckKit.met("h", h);
            CheckKit.met("d", d);
            CheckKit.met("c", c);
        }
        to.number(2, 2);
        to.number(h, 5);
        to.number(d, 5);
        to.number(c, 4);
        for (int i = 0; i < c + 4; i++) {
            to.number(ordered[i], 3);
        }
        int[] tellerCodes = codes(tellers);
        for (int[] one : told) {
            to.code(tellerCodes[one[0]], tellers[one[0]]);
            to.number(one[2], one[1]);
        }
        putSymbols(to, tokens, symbols, distances);
    }

    private static Bits fork(Bits from) {
        Bits to = new Bits();
        to.bits.append(from.bits);
        return to;
    }

    static byte[] pack(byte[] row) {
        String key = new String(row, java.nio.charset.StandardCharsets.ISO_8859_1);
        return MADE.computeIfAbsent(key, k -> packAnew(row));
    }

    private static byte[] packAnew(byte[] row) {
        Bits all = new Bits();
        for (int p = 0; p < row.length; p += 4096) {
            int end = Math.min(row.length, p + 4096);
            List<int[]> tokens = matches(row, p, end);
            all.number(end == row.length ? 1 : 0, 1);
            Bits stored = fork(all);
            stored.number(0, 2);
            stored.align(0);
            stored.number(end - p, 16);
            stored.number(65535 - (end - p), 16);
            for (int i = p; i < end; i++) {
                stored.number(row[i] & 255, 8);
            }
            Bits fixed = fork(all);
            fixed.number(1, 2);
            putSymbols(fixed, tokens, fixedSymbols(), fixedDistances());
            Bits made = fork(all);
            putMade(made, tokens);
            int least = Math.min(fixed.bits.length(), made.bits.length());
            CheckKit.met("bits that another sort takes more than stored:", least - stored.bits.length());
            if (tokens.stream().anyMatch(token -> token[0] > 0 && token[1] > 1000)) {
                CheckKit.met("bits that another sort takes more than stored, with matches far away:", least - stored.bits.length());
            }
            if (least < stored.bits.length()) {
                CheckKit.met("bits that made takes more than fixed:", made.bits.length() - fixed.bits.length());
            }
            if (fixed.bits.length() > Math.max(made.bits.length(), stored.bits.length())) {
                CheckKit.met("bits that made takes more than stored, and fixed more than both:", made.bits.length() - stored.bits.length());
            }
            CheckKit.met("bytes of a part:", end - p);
            CheckKit.met("bits of a byte before a stored part:", stored.bits.length() <= least ? all.bits.length() % 8 : 9);
            all = stored.bits.length() <= least ? stored : fixed.bits.length() <= least ? fixed : made;
        }
        return wrap(120, 156, all.bytes(), check(row));
    }

    static int check(byte[] row) {
        Adler32 adler = new Adler32();
        adler.update(row);
        return (int) adler.getValue();
    }

    static byte[] wrap(int x, int y, byte[] parts, int check) {
        ByteArrayOutputStream out = new ByteArrayOutputStream();
        out.write(x);
        out.write(y);
        out.writeBytes(parts);
        for (int shift = 24; shift >= 0; shift -= 8) {
            out.write(check >> shift);
        }
        return out.toByteArray();
    }

    /** Rows that call for parts of all sorts. */
    static byte[] sample(java.util.Random random, int style, int n) {
        byte[] row = new byte[n];
        int period = 1 + random.nextInt(300);
        for (int i = 0; i < n; i++) {
            switch (style) {
                case 0: row[i] = (byte) random.nextInt(256); break;
                case 1: row[i] = (byte) random.nextInt(4); break;
                case 2: row[i] = (byte) (i < period ? random.nextInt(256) : row[i - period]); break;
                case 3: row[i] = (byte) Math.min(255, (int) (-Math.log(1 - random.nextDouble()) * 12)); break;
                case 4: row[i] = (byte) (random.nextInt(9) == 0 ? random.nextInt(256) : 0); break;
                default: row[i] = (byte) (i > 40 && random.nextInt(30) > 0 ? row[i - 1 - random.nextInt(40)] : 97 + random.nextInt(20));
            }
        }
        return row;
    }
}
