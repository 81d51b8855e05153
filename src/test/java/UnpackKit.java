import java.io.ByteArrayOutputStream;
import java.math.BigInteger;
import java.util.HashMap;
import java.util.HashSet;
import java.util.Map;
import java.util.Set;

/** A second unpacking, as plainly as the document tells it: codes are texts of 0 and 1. */
final class UnpackKit {
    private static final int[] ORDER = {16, 17, 18, 0, 8, 7, 9, 6, 10, 5, 11, 4, 12, 3, 13, 2, 14, 1, 15};

    /** The row has a fault. */
    private static final class Fault extends RuntimeException {
        Fault(String what) {
            super(what, null, false, false);
        }
    }

    /** Codes, and all their beginnings. */
    private static final class Codes {
        final Map<String, Integer> symbols = new HashMap<>();
        final Set<String> beginnings = new HashSet<>();
    }

    private static final Codes FIXED_SYMBOLS = codes(PackKit.fixedSymbols());
    private static final Codes FIXED_DISTANCES = codes(PackKit.fixedDistances());

    private final byte[] row;
    private final int most;
    private final byte[] made;
    private int count;
    private int bit = 16;

    private UnpackKit(byte[] row, int most) {
        this.row = row;
        this.most = most;
        this.made = new byte[most];
    }

    /** The bytes of which this is a packed row; null if it has a fault, or there are more than may be. */
    static byte[] unpack(byte[] row, int most) {
        try {
            return new UnpackKit(row, most).all();
        } catch (Fault fault) {
            return null;
        }
    }

    /** What a row makes before its first fault, whatever check it tells: a test can tell the right one so. */
    static byte[] unpackAny(byte[] row, int most) {
        UnpackKit kit = new UnpackKit(row, most);
        try {
            kit.all();
        } catch (Fault fault) {
            // What is made so far is what is asked for.
        }
        return java.util.Arrays.copyOf(kit.made, kit.count);
    }

    private static void need(boolean holds, String what) {
        if (!holds) {
            throw new Fault(what);
        }
    }

    private byte[] all() {
        need(row.length >= 2, "bits are missing");
        int x = row[0] & 255;
        int y = row[1] & 255;
        need((256 * x + y) % 31 == 0, "not divided by 31");
        need(x % 16 == 8, "lower four bits");
        need(x / 16 <= 7, "upper four bits");
        need(y / 32 % 2 == 0, "the bit 32");
        boolean last = false;
        while (!last) {
            last = number(1) == 1;
            int sort = number(2);
            if (sort == 0) {
                stored();
            } else if (sort == 1) {
                symbols(FIXED_SYMBOLS, FIXED_DISTANCES, 256 << x / 16);
            } else if (sort == 2) {
                madePart(256 << x / 16);
            } else {
                throw new Fault("the sort is 3");
            }
        }
        align();
        ByteArrayOutputStream out = new ByteArrayOutputStream();
        out.write(made, 0, count);
        byte[] bytes = out.toByteArray();
        long told = 0;
        for (int i = 0; i < 4; i++) {
            told = 256 * told + number(8);
        }
        need(bit == 8 * row.length, "bytes are left");
        need(told == check(bytes), "another check");
        return bytes;
    }

    private static long check(byte[] bytes) {
        long a = 1;
        BigInteger b = BigInteger.ZERO;
        for (byte one : bytes) {
            a += one & 255;
            b = b.add(BigInteger.valueOf(a));
        }
        return 65536 * b.mod(BigInteger.valueOf(65521)).longValue() + a % 65521;
    }

    private void align() {
        while (bit % 8 != 0) {
            bit++;
        }
    }

    private int number(int k) {
        int n = 0;
        for (int i = 0; i < k; i++) {
            need(bit < 8 * row.length, "bits are missing");
            n += (row[bit / 8] >> bit % 8 & 1) << i;
            bit++;
        }
        return n;
    }

    private void put(int b) {
        need(count < most, "more bytes than there may be");
        made[count++] = (byte) b;
    }

    private void stored() {
        align();
        int n = number(16);
        need(number(16) == 65535 - n, "the two numbers don't fit");
        for (int i = 0; i < n; i++) {
            put(number(8));
        }
    }

    private void madePart(int farthest) {
        int h = number(5);
        int d = number(5);
        int c = number(4);
        need(h <= 29, "h above 29");
        need(d <= 29, "d above 29");
        int[] tellers = new int[19];
        for (int i = 0; i < c + 4; i++) {
            tellers[ORDER[i]] = number(3);
        }
        Codes byTellers = codes(tellers);
        need(byTellers != null && !byTellers.symbols.isEmpty(), "lengths that make no codes");
        int all = h + 257 + d + 1;
        int[] lengths = new int[all];
        int i = 0;
        while (i < all) {
            int told = symbol(byTellers);
            need(told != 16 || i > 0, "a 16 without a length before");
            int length = told < 16 ? told : told == 16 ? lengths[i - 1] : 0;
            int times = told < 16 ? 1 : told == 16 ? 3 + number(2) : told == 17 ? 3 + number(3) : 11 + number(7);
            need(i + times <= all, "more lengths than there are to be");
            for (int k = 0; k < times; k++) {
                lengths[i++] = length;
            }
        }
        Codes bySymbols = codes(java.util.Arrays.copyOf(lengths, h + 257));
        Codes byDistances = codes(java.util.Arrays.copyOfRange(lengths, h + 257, all));
        need(bySymbols != null && byDistances != null && lengths[256] > 0, "lengths that make no codes");
        symbols(bySymbols, byDistances, farthest);
    }

    /** Null if the lengths make no codes; none at all makes codes here. */
    private static Codes codes(int[] lengths) {
        double sum = 0;
        int many = 0;
        for (int length : lengths) {
            sum += length > 0 ? Math.pow(2, -length) : 0;
            many += length > 0 ? 1 : 0;
        }
        boolean oneAlone = many == 1 && sum == 0.5;
        if (sum != 1 && many > 0 && !oneAlone) {
            return null;
        }
        Codes codes = new Codes();
        int next = 0;
        for (int length = 1; length <= 15; length++) {
            next *= 2;
            for (int s = 0; s < lengths.length; s++) {
                if (lengths[s] == length) {
                    String code = Integer.toBinaryString(1 << length | next).substring(1);
                    codes.symbols.put(code, s);
                    for (int k = 0; k <= length; k++) {
                        codes.beginnings.add(code.substring(0, k));
                    }
                    next++;
                }
            }
        }
        return codes;
    }

    private int symbol(Codes codes) {
        StringBuilder code = new StringBuilder();
        while (true) {
            code.append(number(1));
            String told = code.toString();
            need(codes.beginnings.contains(told), "no beginning of a code");
            Integer symbol = codes.symbols.get(told);
            if (symbol != null) {
                return symbol;
            }
        }
    }

    private void symbols(Codes bySymbols, Codes byDistances, int farthest) {
        for (int s = symbol(bySymbols); s != 256; s = symbol(bySymbols)) {
            if (s < 256) {
                put(s);
                continue;
            }
            need(s <= 285, "a symbol above 285");
            int e = s >= 265 && s <= 284 ? (s - 261) / 4 : 0;
            int base = s <= 264 ? s - 254 : s == 285 ? 258 : 3 + (4 + (s - 261) % 4 << e);
            int length = base + number(e);
            int d = symbol(byDistances);
            need(d <= 29, "a distance above 29");
            e = d <= 3 ? 0 : d / 2 - 1;
            int distance = d <= 3 ? d + 1 : 1 + (2 + d % 2 << e) + number(e);
            need(distance <= count, "a distance beyond the first byte");
            need(distance <= farthest, "a distance above the window");
            for (int i = 0; i < length; i++) {
                put(made[count - distance]);
            }
        }
    }
}
