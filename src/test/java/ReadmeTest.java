import java.io.IOException;
import java.lang.reflect.Field;
import java.lang.reflect.Method;
import java.lang.reflect.Modifier;
import java.nio.file.Files;
import java.nio.file.Path;
import java.util.List;
import java.util.regex.Matcher;
import java.util.regex.Pattern;

/** What README.md says of the class and of its tests is so. */
public final class ReadmeTest {
    private static final Path TESTS = Path.of("src/test/java");

    public static void main(String[] args) throws Exception {
        String readme = Files.readString(Path.of("README.md"));
        exampleIsThere(readme);
        example();
        callsAreThere(readme);
        answersAreThere(readme);
        testsAreThere(readme);
        afterRefusals();
        tapeUsers(readme);
        options();
        abouts();
        mountsEnd();
        CheckKit.finish("ReadmeTest");
    }

    private static String block(String readme, String language) {
        int from = readme.indexOf("```" + language + "\n") + language.length() + 4;
        return readme.substring(from, readme.indexOf("```", from));
    }

    /** The lines of the example stand in this file, one behind the other, without what they say behind them. */
    private static void exampleIsThere(String readme) throws IOException {
        String source = Files.readString(TESTS.resolve("ReadmeTest.java"));
        int at = source.indexOf("private static void example()");
        for (String line : block(readme, "java").split("\n")) {
            String call = line.replaceAll("//.*", "").trim();
            int found = source.indexOf(" " + call + "\n", at);
            CheckKit.due("a line of the example, " + call, found >= at ? 1 : 0, 1);
            at = Math.max(at, found);
        }
    }

    private static void example() {
        FrozenVolume x = new FrozenVolume();
        int fed =
        x.feed(0x68656c6c, 0x6f000000, 0, 0, 0);
        CheckKit.due("feed", fed, 20);
        int ended =
        x.end(5);
        CheckKit.due("end", ended, 5);
        int file = x.make(0, 2, 0);
        CheckKit.due("make", file, 1);
        CheckKit.due("the tape is used up", x.end(0), FrozenVolume.BAD);
        int filled =
        x.fill(file, 65, 10000);
        CheckKit.due("fill", filled, 10000);
        int size = x.freeze(12, 0, 0);
        CheckKit.due("freeze", size, x.image());
        long first = x.imageWord(0);
        CheckKit.due("imageWord", first, 2L << 32 | 1936814952);
        CheckKit.due("blocks of 4096", x.imageWord(1) >> 32, 4096);
        int fault = x.mount();
        CheckKit.due("mount", fault, 0);
        x.feed(0x2f68656c, 0x6c6f0000, 0, 0, 0);
        x.end(6);
        int inode = x.find(1);
        CheckKit.due("find", inode, 2);
        long bytes = x.about(inode, 5);
        CheckKit.due("about", bytes, 10000);
        int many = x.read(inode, 9990, 20);
        CheckKit.due("read", many, 10);
        long word = x.outWord(0);
        CheckKit.due("outWord", word, 0x4141414141414141L);
    }

    /** Each call of the face is told in the table, with as many numbers as it takes, and no other one is. */
    private static void callsAreThere(String readme) {
        String table = readme.substring(readme.indexOf("### The calls"), readme.indexOf("Kinds:"));
        int calls = 0;
        for (Method method : FrozenVolume.class.getDeclaredMethods()) {
            if (Modifier.isPublic(method.getModifiers())) {
                int takes = method.getParameterCount();
                String numbers = takes == 0 ? "" : "\\w+" + ", \\w+".repeat(takes - 1);
                boolean told = Pattern.compile("`" + method.getName() + "\\(" + numbers + "\\)`").matcher(table).find();
                CheckKit.due(method.getName() + " is told", told ? 1 : 0, 1);
                calls++;
            }
        }
        Matcher told = Pattern.compile("`\\w+\\([^)]*\\)`").matcher(table);
        CheckKit.due("as many calls as the face has", told.results().count(), calls);
        CheckKit.due("the bound of calls is told", readme.contains("at most 512 calls") ? 1 : 0, 1);
    }

    private static void answersAreThere(String readme) throws Exception {
        for (Field field : FrozenVolume.class.getFields()) {
            String row = "| `" + field.getName() + "` | " + field.getInt(null) + " |";
            CheckKit.due(row, readme.contains(row) ? 1 : 0, 1);
        }
    }

    private static void testsAreThere(String readme) throws IOException {
        try (var files = Files.list(TESTS)) {
            for (Path file : (Iterable<Path>) files::iterator) {
                String name = file.getFileName().toString().replace(".java", "");
                CheckKit.due(name + " is told", readme.contains("`" + name + "`") ? 1 : 0, 1);
            }
        }
        // "EdgeTest" alone is but the end of names.
        for (Matcher told = Pattern.compile("`(?!EdgeTest`)(\\w+(?:Test|Kit))`").matcher(readme); told.find(); ) {
            CheckKit.due(told.group(1) + " is there", Files.exists(TESTS.resolve(told.group(1) + ".java")) ? 1 : 0, 1);
        }
        CheckKit.due("how the tests are run", Files.isExecutable(Path.of(block(readme, "sh").trim())) ? 1 : 0, 1);
    }

    private static FrozenVolume sample() {
        FrozenVolume x = new FrozenVolume();
        CheckKit.make(x, 0, CheckKit.FILE, "file");
        CheckKit.make(x, 0, CheckKit.LINK, "link\0target");
        x.fill(1, 7, 100);
        x.freeze(12, 0, 0);
        x.mount();
        return x;
    }

    private static void afterRefusals() {
        FrozenVolume x = sample();
        CheckKit.due("target", x.target(3), 6);
        x.target(2);
        x.entry(1, 9);
        x.read(2, -1, 1);
        CheckKit.due("the out after refusals", CheckKit.out(x), CheckKit.bytes("target"));
        CheckKit.due("a look-up when nothing is mounted", new FrozenVolume().about(1, 0), FrozenVolume.BAD);
    }

    /** Those that use up the tape, and no others: behind these there is nothing that could be ended. */
    private static void tapeUsers(String readme) {
        for (String name : List.of("make", "tie", "drop", "write", "keep", "find", "fill", "own", "freeze", "astray", "image",
                "imageWord", "patch", "mount", "about", "entry", "read", "target", "place", "out", "outWord")) {
            FrozenVolume x = sample();
            x.feed(0, 0, 0, 0, 0);
            call(x, name);
            boolean told = readme.contains("`make`, `tie`, `drop`, `write`, `keep` and `find`")
                    && List.of("make", "tie", "drop", "write", "keep", "find").contains(name);
            CheckKit.due("the tape behind " + name, x.end(3), told ? FrozenVolume.BAD : 3);
        }
    }

    private static long call(FrozenVolume x, String name) {
        switch (name) {
            case "make": return x.make(0, 1, 0);
            case "tie": return x.tie(0, 1);
            case "drop": return x.drop(0);
            case "write": return x.write(1);
            case "keep": return x.keep(0);
            case "find": return x.find(1);
            case "fill": return x.fill(1, 1, 1);
            case "own": return x.own(1, 1, 1, 1, 1);
            case "freeze": return x.freeze(12, 0, 0);
            case "astray": return x.astray();
            case "image": return x.image();
            case "imageWord": return x.imageWord(0);
            case "patch": return x.patch(0, 0);
            case "mount": return x.mount();
            case "about": return x.about(1, 0);
            case "entry": return x.entry(1, 0);
            case "read": return x.read(2, 0, 1);
            case "target": return x.target(3);
            case "place": return x.place(2);
            case "out": return x.out();
            default: return x.outWord(0);
        }
    }

    /** Flags of the super tell what was asked for. */
    private static void options() {
        int[] flags = {1, 2, 16, 128};
        for (int i = 0; i < 4; i++) {
            FrozenVolume x = sample();
            x.freeze(12, 1 << i, 0);
            CheckKit.due("flags by the option " + (1 << i), x.imageWord(3) & flags[i], flags[i]);
        }
    }

    private static void abouts() {
        FrozenVolume x = sample();
        long[] due = {2, 420, 0, 0, 0, 100, 1, 0, 0, 0, 0, 2};
        for (int what = 0; what < due.length; what++) {
            CheckKit.due("about a file, " + what, x.about(2, what), due[what]);
        }
        CheckKit.due("a target's size", x.about(3, 5), 6);
        CheckKit.due("a directory's parent", x.about(1, 8), 1);
        CheckKit.due("its entries", x.about(1, 9), 2);
    }

    private static void mountsEnd() {
        for (int by = 0; by < 4; by++) {
            FrozenVolume x = sample();
            CheckKit.due("mounted", x.about(1, 0), 1);
            int answer = by == 0 ? x.freeze(12, 0, 0) : by == 1 ? x.patch(0, 0) : by == 2 ? x.keep(x.image()) : 0;
            CheckKit.due("not refused", answer >= 0 ? 1 : 0, 1);
            if (by == 3) {
                x.patch(0, 0);
                CheckKit.due("a fault", x.mount(), 1);
            }
            CheckKit.due("not mounted any more", x.about(1, 0), FrozenVolume.BAD);
        }
    }
}
