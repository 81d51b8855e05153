import java.io.IOException;
import java.nio.charset.StandardCharsets;
import java.nio.file.Files;
import java.nio.file.Path;
import java.util.HashMap;
import java.util.Map;
import java.util.Set;
import java.util.TreeSet;

/** What every test needs: a count of the answers that are not as due, and bytes on the tape. */
final class CheckKit {
    static final int FOLDER = 1, FILE = 2, LINK = 3, BLOCKS = 4, CHARACTERS = 5, PIPE = 6, SOCKET = 7;
    private static final Path DOCUMENT = Path.of("../shared/DOC.md");
    private static String document;
    private static String sentence = "";
    private static int sentences;
    private static final Map<String, Set<Integer>> MET = new HashMap<>();
    private static int wrong;
    private static int asked;

    private CheckKit() {
    }

    /** The promise and the words of the document that the answers from here on are of: the words must stand there. */
    static void sentence(int promise, String words) {
        sentence = "promise " + promise + ", '" + words + "': ";
        sentences++;
        if (Files.isReadable(DOCUMENT)) {
            due("words that stand in the document", document().contains(plain(words)) ? 1 : 0, 1);
        }
    }

    /** Remembers a number that came up where the document names an edge. */
    static void met(String what, int number) {
        MET.computeIfAbsent(what, k -> new TreeSet<>()).add(number);
    }

    static void forgetMet() {
        MET.clear();
    }

    /** Whether each of these came up since they were forgotten: otherwise the test did not come to the edge. */
    static void dueMet(String what, int... numbers) {
        for (int number : numbers) {
            due("the edge, " + what + " " + number + ", came up", MET.getOrDefault(what, Set.of()).contains(number) ? 1 : 0, 1);
        }
    }

    private static String document() {
        try {
            document = document == null ? plain(Files.readString(DOCUMENT)) : document;
        } catch (IOException e) {
            due("reading the document, " + e, 0, 1);
            document = "";
        }
        return document;
    }

    private static String plain(String words) {
        return words.replaceAll("\\s+", " ");
    }

    static void due(String what, long got, long want) {
        asked++;
        if (got != want) {
            wrong++;
            System.out.println(sentence + what + " answered " + got + ", due is " + want);
        }
    }

    static void due(String what, byte[] got, byte[] want) {
        asked++;
        if (!java.util.Arrays.equals(got, want)) {
            wrong++;
            int at = java.util.Arrays.mismatch(got, want);
            System.out.println(sentence + what + ": " + got.length + " bytes, due are " + want.length + "; other from " + at + " on");
        }
    }

    static void finish(String test) {
        System.out.println(test + ": " + asked + " answers" + (sentences > 0 ? " to " + sentences + " sentences, " : ", ")
                + wrong + " not as due");
        if (wrong > 0) {
            System.exit(1);
        }
    }

    static byte[] bytes(String text) {
        return text.getBytes(StandardCharsets.ISO_8859_1);
    }

    static void feed(FrozenVolume x, String text) {
        feed(x, bytes(text));
    }

    static void feed(FrozenVolume x, byte[] bytes) {
        for (int at = 0; at < bytes.length; at += 20) {
            int[] words = new int[5];
            int n = Math.min(20, bytes.length - at);
            for (int i = 0; i < n; i++) {
                words[i / 4] |= (bytes[at + i] & 255) << 24 - 8 * (i % 4);
            }
            x.feed(words[0], words[1], words[2], words[3], words[4]);
            if (n < 20) {
                x.end(n);
            }
        }
    }

    static int make(FrozenVolume x, int directory, int kind, int number, String tape) {
        feed(x, tape);
        return x.make(directory, kind, number);
    }

    static int make(FrozenVolume x, int directory, int kind, String tape) {
        return make(x, directory, kind, 0, tape);
    }

    static int tie(FrozenVolume x, int directory, int node, String tape) {
        feed(x, tape);
        return x.tie(directory, node);
    }

    static int drop(FrozenVolume x, int directory, String tape) {
        feed(x, tape);
        return x.drop(directory);
    }

    static int write(FrozenVolume x, int node, byte[] bytes) {
        int answer = 0;
        for (int at = 0; at == 0 || at < bytes.length; at += 16000) {
            feed(x, java.util.Arrays.copyOfRange(bytes, at, Math.min(bytes.length, at + 16000)));
            answer = x.write(node);
        }
        return answer;
    }

    static int find(FrozenVolume x, int inode, String path) {
        feed(x, path);
        return x.find(inode);
    }

    static byte[] image(FrozenVolume x) {
        byte[] bytes = new byte[x.image()];
        for (int i = 0; i < bytes.length; i++) {
            bytes[i] = (byte) (x.imageWord(i / 8) >> 8 * (i % 8));
        }
        return bytes;
    }

    static byte[] out(FrozenVolume x) {
        byte[] bytes = new byte[x.out()];
        for (int i = 0; i < bytes.length; i++) {
            bytes[i] = (byte) (x.outWord(i / 8) >> 8 * (i % 8));
        }
        return bytes;
    }

    /** More calls than an object is promised for, which the tests of long images may make all the same. */
    static void setImage(FrozenVolume x, byte[] image) {
        x.keep(0);
        for (int at = 0; at < image.length; at += 16000) {
            feed(x, java.util.Arrays.copyOfRange(image, at, Math.min(image.length, at + 16000)));
            x.keep(at);
        }
    }

    static int mount(byte[] image) {
        FrozenVolume x = new FrozenVolume();
        setImage(x, image);
        return x.mount();
    }
}
